/-! methods and their instructions -/
def K_Nm_find : KM := (⟨"ParishBoards$Names", "find", "(I[JI)V"⟩, prog_7_method_5_code, 5, none, "ParishBoards$Names", ([], []))
theorem d_Nm_find_0 : decode (kB K_Nm_find) 0 = .ok (.aload_n 0, 1) := by decide +kernel
theorem d_Nm_find_1 : decode (kB K_Nm_find) 1 = .ok (.getfield 31, 3) := by decide +kernel
theorem d_Nm_find_4 : decode (kB K_Nm_find) 4 = .ok (.iload_n 1, 1) := by decide +kernel
theorem d_Nm_find_5 : decode (kB K_Nm_find) 5 = .ok (.invokevirtual 94, 3) := by decide +kernel
theorem d_Nm_find_8 : decode (kB K_Nm_find) 8 = .ok (.aload_n 2, 1) := by decide +kernel
theorem d_Nm_find_9 : decode (kB K_Nm_find) 9 = .ok (.iload_n 3, 1) := by decide +kernel
theorem d_Nm_find_10 : decode (kB K_Nm_find) 10 = .ok (.invokestatic 98, 3) := by decide +kernel
theorem d_Nm_find_13 : decode (kB K_Nm_find) 13 = .ok (.istore 4, 2) := by decide +kernel
theorem d_Nm_find_15 : decode (kB K_Nm_find) 15 = .ok (.iload 4, 2) := by decide +kernel
theorem d_Nm_find_17 : decode (kB K_Nm_find) 17 = .ok (.iconst (-1), 1) := by decide +kernel
theorem d_Nm_find_18 : decode (kB K_Nm_find) 18 = .ok (.if_icmp .ne 12, 3) := by decide +kernel
theorem d_Nm_find_21 : decode (kB K_Nm_find) 21 = .ok (.aload_n 0, 1) := by decide +kernel
theorem d_Nm_find_22 : decode (kB K_Nm_find) 22 = .ok (.iconst 3, 1) := by decide +kernel
theorem d_Nm_find_23 : decode (kB K_Nm_find) 23 = .ok (.iload_n 1, 1) := by decide +kernel
theorem d_Nm_find_24 : decode (kB K_Nm_find) 24 = .ok (.invokevirtual 102, 3) := by decide +kernel
theorem d_Nm_find_27 : decode (kB K_Nm_find) 27 = .ok (.goto 13, 3) := by decide +kernel
theorem d_Nm_find_30 : decode (kB K_Nm_find) 30 = .ok (.aload_n 0, 1) := by decide +kernel
theorem d_Nm_find_31 : decode (kB K_Nm_find) 31 = .ok (.getfield 31, 3) := by decide +kernel
theorem d_Nm_find_34 : decode (kB K_Nm_find) 34 = .ok (.iload_n 1, 1) := by decide +kernel
theorem d_Nm_find_35 : decode (kB K_Nm_find) 35 = .ok (.iload 4, 2) := by decide +kernel
theorem d_Nm_find_37 : decode (kB K_Nm_find) 37 = .ok (.invokevirtual 105, 3) := by decide +kernel
theorem d_Nm_find_40 : decode (kB K_Nm_find) 40 = .ok (.return_, 1) := by decide +kernel
def K_Nm_findBoard : KM := (⟨"ParishBoards$Names", "findBoard", "(I)V"⟩, prog_7_method_6_code, 2, none, "ParishBoards$Names", ([], []))
theorem d_Nm_findBoard_0 : decode (kB K_Nm_findBoard) 0 = .ok (.aload_n 0, 1) := by decide +kernel
theorem d_Nm_findBoard_1 : decode (kB K_Nm_findBoard) 1 = .ok (.iload_n 1, 1) := by decide +kernel
theorem d_Nm_findBoard_2 : decode (kB K_Nm_findBoard) 2 = .ok (.iconst 1, 1) := by decide +kernel
theorem d_Nm_findBoard_3 : decode (kB K_Nm_findBoard) 3 = .ok (.iadd, 1) := by decide +kernel
theorem d_Nm_findBoard_4 : decode (kB K_Nm_findBoard) 4 = .ok (.aload_n 0, 1) := by decide +kernel
theorem d_Nm_findBoard_5 : decode (kB K_Nm_findBoard) 5 = .ok (.getfield 9, 3) := by decide +kernel
theorem d_Nm_findBoard_8 : decode (kB K_Nm_findBoard) 8 = .ok (.aload_n 0, 1) := by decide +kernel
theorem d_Nm_findBoard_9 : decode (kB K_Nm_findBoard) 9 = .ok (.getfield 35, 3) := by decide +kernel
theorem d_Nm_findBoard_12 : decode (kB K_Nm_findBoard) 12 = .ok (.getfield 64, 3) := by decide +kernel
theorem d_Nm_findBoard_15 : decode (kB K_Nm_findBoard) 15 = .ok (.invokevirtual 77, 3) := by decide +kernel
theorem d_Nm_findBoard_18 : decode (kB K_Nm_findBoard) 18 = .ok (.aload_n 0, 1) := by decide +kernel
theorem d_Nm_findBoard_19 : decode (kB K_Nm_findBoard) 19 = .ok (.iload_n 1, 1) := by decide +kernel
theorem d_Nm_findBoard_20 : decode (kB K_Nm_findBoard) 20 = .ok (.iconst 2, 1) := by decide +kernel
theorem d_Nm_findBoard_21 : decode (kB K_Nm_findBoard) 21 = .ok (.iadd, 1) := by decide +kernel
theorem d_Nm_findBoard_22 : decode (kB K_Nm_findBoard) 22 = .ok (.aload_n 0, 1) := by decide +kernel
theorem d_Nm_findBoard_23 : decode (kB K_Nm_findBoard) 23 = .ok (.getfield 15, 3) := by decide +kernel
theorem d_Nm_findBoard_26 : decode (kB K_Nm_findBoard) 26 = .ok (.aload_n 0, 1) := by decide +kernel
theorem d_Nm_findBoard_27 : decode (kB K_Nm_findBoard) 27 = .ok (.getfield 35, 3) := by decide +kernel
theorem d_Nm_findBoard_30 : decode (kB K_Nm_findBoard) 30 = .ok (.getfield 72, 3) := by decide +kernel
theorem d_Nm_findBoard_33 : decode (kB K_Nm_findBoard) 33 = .ok (.invokevirtual 77, 3) := by decide +kernel
theorem d_Nm_findBoard_36 : decode (kB K_Nm_findBoard) 36 = .ok (.return_, 1) := by decide +kernel
def K_Nm_findOtherParish : KM := (⟨"ParishBoards$Names", "findOtherParish", "(II)V"⟩, prog_7_method_7_code, 3, none, "ParishBoards$Names", ([], []))
theorem d_Nm_findOtherParish_0 : decode (kB K_Nm_findOtherParish) 0 = .ok (.aload_n 0, 1) := by decide +kernel
theorem d_Nm_findOtherParish_1 : decode (kB K_Nm_findOtherParish) 1 = .ok (.iload_n 2, 1) := by decide +kernel
theorem d_Nm_findOtherParish_2 : decode (kB K_Nm_findOtherParish) 2 = .ok (.aload_n 0, 1) := by decide +kernel
theorem d_Nm_findOtherParish_3 : decode (kB K_Nm_findOtherParish) 3 = .ok (.getfield 9, 3) := by decide +kernel
theorem d_Nm_findOtherParish_6 : decode (kB K_Nm_findOtherParish) 6 = .ok (.aload_n 0, 1) := by decide +kernel
theorem d_Nm_findOtherParish_7 : decode (kB K_Nm_findOtherParish) 7 = .ok (.getfield 35, 3) := by decide +kernel
theorem d_Nm_findOtherParish_10 : decode (kB K_Nm_findOtherParish) 10 = .ok (.getfield 64, 3) := by decide +kernel
theorem d_Nm_findOtherParish_13 : decode (kB K_Nm_findOtherParish) 13 = .ok (.invokevirtual 77, 3) := by decide +kernel
theorem d_Nm_findOtherParish_16 : decode (kB K_Nm_findOtherParish) 16 = .ok (.aload_n 0, 1) := by decide +kernel
theorem d_Nm_findOtherParish_17 : decode (kB K_Nm_findOtherParish) 17 = .ok (.getfield 31, 3) := by decide +kernel
theorem d_Nm_findOtherParish_20 : decode (kB K_Nm_findOtherParish) 20 = .ok (.iload_n 1, 1) := by decide +kernel
theorem d_Nm_findOtherParish_21 : decode (kB K_Nm_findOtherParish) 21 = .ok (.invokevirtual 108, 3) := by decide +kernel
theorem d_Nm_findOtherParish_24 : decode (kB K_Nm_findOtherParish) 24 = .ok (.aload_n 0, 1) := by decide +kernel
theorem d_Nm_findOtherParish_25 : decode (kB K_Nm_findOtherParish) 25 = .ok (.getfield 31, 3) := by decide +kernel
theorem d_Nm_findOtherParish_28 : decode (kB K_Nm_findOtherParish) 28 = .ok (.iload_n 2, 1) := by decide +kernel
theorem d_Nm_findOtherParish_29 : decode (kB K_Nm_findOtherParish) 29 = .ok (.invokevirtual 108, 3) := by decide +kernel
theorem d_Nm_findOtherParish_32 : decode (kB K_Nm_findOtherParish) 32 = .ok (.if_icmp .ne 9, 3) := by decide +kernel
theorem d_Nm_findOtherParish_35 : decode (kB K_Nm_findOtherParish) 35 = .ok (.aload_n 0, 1) := by decide +kernel
theorem d_Nm_findOtherParish_36 : decode (kB K_Nm_findOtherParish) 36 = .ok (.iconst 5, 1) := by decide +kernel
theorem d_Nm_findOtherParish_37 : decode (kB K_Nm_findOtherParish) 37 = .ok (.iload_n 2, 1) := by decide +kernel
theorem d_Nm_findOtherParish_38 : decode (kB K_Nm_findOtherParish) 38 = .ok (.invokevirtual 102, 3) := by decide +kernel
theorem d_Nm_findOtherParish_41 : decode (kB K_Nm_findOtherParish) 41 = .ok (.return_, 1) := by decide +kernel
def K_Nm_layRoad : KM := (⟨"ParishBoards$Names", "layRoad", "(I)V"⟩, prog_7_method_8_code, 5, none, "ParishBoards$Names", ([], []))
theorem d_Nm_layRoad_0 : decode (kB K_Nm_layRoad) 0 = .ok (.aload_n 0, 1) := by decide +kernel
theorem d_Nm_layRoad_1 : decode (kB K_Nm_layRoad) 1 = .ok (.getfield 31, 3) := by decide +kernel
theorem d_Nm_layRoad_4 : decode (kB K_Nm_layRoad) 4 = .ok (.iload_n 1, 1) := by decide +kernel
theorem d_Nm_layRoad_5 : decode (kB K_Nm_layRoad) 5 = .ok (.iconst 1, 1) := by decide +kernel
theorem d_Nm_layRoad_6 : decode (kB K_Nm_layRoad) 6 = .ok (.iadd, 1) := by decide +kernel
theorem d_Nm_layRoad_7 : decode (kB K_Nm_layRoad) 7 = .ok (.invokevirtual 94, 3) := by decide +kernel
theorem d_Nm_layRoad_10 : decode (kB K_Nm_layRoad) 10 = .ok (.lstore_n 2, 1) := by decide +kernel
theorem d_Nm_layRoad_11 : decode (kB K_Nm_layRoad) 11 = .ok (.lload_n 2, 1) := by decide +kernel
theorem d_Nm_layRoad_12 : decode (kB K_Nm_layRoad) 12 = .ok (.lconst 1, 1) := by decide +kernel
theorem d_Nm_layRoad_13 : decode (kB K_Nm_layRoad) 13 = .ok (.lcmp, 1) := by decide +kernel
theorem d_Nm_layRoad_14 : decode (kB K_Nm_layRoad) 14 = .ok (.ifCond .lt 11, 3) := by decide +kernel
theorem d_Nm_layRoad_17 : decode (kB K_Nm_layRoad) 17 = .ok (.lload_n 2, 1) := by decide +kernel
theorem d_Nm_layRoad_18 : decode (kB K_Nm_layRoad) 18 = .ok (.ldc2_w 112, 3) := by decide +kernel
theorem d_Nm_layRoad_21 : decode (kB K_Nm_layRoad) 21 = .ok (.lcmp, 1) := by decide +kernel
theorem d_Nm_layRoad_22 : decode (kB K_Nm_layRoad) 22 = .ok (.ifCond .le 12, 3) := by decide +kernel
theorem d_Nm_layRoad_25 : decode (kB K_Nm_layRoad) 25 = .ok (.aload_n 0, 1) := by decide +kernel
theorem d_Nm_layRoad_26 : decode (kB K_Nm_layRoad) 26 = .ok (.iconst 5, 1) := by decide +kernel
theorem d_Nm_layRoad_27 : decode (kB K_Nm_layRoad) 27 = .ok (.iload_n 1, 1) := by decide +kernel
theorem d_Nm_layRoad_28 : decode (kB K_Nm_layRoad) 28 = .ok (.iconst 1, 1) := by decide +kernel
theorem d_Nm_layRoad_29 : decode (kB K_Nm_layRoad) 29 = .ok (.iadd, 1) := by decide +kernel
theorem d_Nm_layRoad_30 : decode (kB K_Nm_layRoad) 30 = .ok (.invokevirtual 102, 3) := by decide +kernel
theorem d_Nm_layRoad_33 : decode (kB K_Nm_layRoad) 33 = .ok (.return_, 1) := by decide +kernel
theorem d_Nm_layRoad_34 : decode (kB K_Nm_layRoad) 34 = .ok (.aload_n 0, 1) := by decide +kernel
theorem d_Nm_layRoad_35 : decode (kB K_Nm_layRoad) 35 = .ok (.getfield 35, 3) := by decide +kernel
theorem d_Nm_layRoad_38 : decode (kB K_Nm_layRoad) 38 = .ok (.getfield 74, 3) := by decide +kernel
theorem d_Nm_layRoad_41 : decode (kB K_Nm_layRoad) 41 = .ok (.iconst 1, 1) := by decide +kernel
theorem d_Nm_layRoad_42 : decode (kB K_Nm_layRoad) 42 = .ok (.isub, 1) := by decide +kernel
theorem d_Nm_layRoad_43 : decode (kB K_Nm_layRoad) 43 = .ok (.istore 4, 2) := by decide +kernel
theorem d_Nm_layRoad_45 : decode (kB K_Nm_layRoad) 45 = .ok (.iload 4, 2) := by decide +kernel
theorem d_Nm_layRoad_47 : decode (kB K_Nm_layRoad) 47 = .ok (.ifCond .lt 38, 3) := by decide +kernel
theorem d_Nm_layRoad_50 : decode (kB K_Nm_layRoad) 50 = .ok (.aload_n 0, 1) := by decide +kernel
theorem d_Nm_layRoad_51 : decode (kB K_Nm_layRoad) 51 = .ok (.getfield 35, 3) := by decide +kernel
theorem d_Nm_layRoad_54 : decode (kB K_Nm_layRoad) 54 = .ok (.getfield 114, 3) := by decide +kernel
theorem d_Nm_layRoad_57 : decode (kB K_Nm_layRoad) 57 = .ok (.iload 4, 2) := by decide +kernel
theorem d_Nm_layRoad_59 : decode (kB K_Nm_layRoad) 59 = .ok (.aaload, 1) := by decide +kernel
theorem d_Nm_layRoad_60 : decode (kB K_Nm_layRoad) 60 = .ok (.aload_n 0, 1) := by decide +kernel
theorem d_Nm_layRoad_61 : decode (kB K_Nm_layRoad) 61 = .ok (.getfield 31, 3) := by decide +kernel
theorem d_Nm_layRoad_64 : decode (kB K_Nm_layRoad) 64 = .ok (.iload_n 1, 1) := by decide +kernel
theorem d_Nm_layRoad_65 : decode (kB K_Nm_layRoad) 65 = .ok (.iconst 3, 1) := by decide +kernel
theorem d_Nm_layRoad_66 : decode (kB K_Nm_layRoad) 66 = .ok (.isub, 1) := by decide +kernel
theorem d_Nm_layRoad_67 : decode (kB K_Nm_layRoad) 67 = .ok (.invokevirtual 108, 3) := by decide +kernel
theorem d_Nm_layRoad_70 : decode (kB K_Nm_layRoad) 70 = .ok (.aload_n 0, 1) := by decide +kernel
theorem d_Nm_layRoad_71 : decode (kB K_Nm_layRoad) 71 = .ok (.getfield 31, 3) := by decide +kernel
theorem d_Nm_layRoad_74 : decode (kB K_Nm_layRoad) 74 = .ok (.iload_n 1, 1) := by decide +kernel
theorem d_Nm_layRoad_75 : decode (kB K_Nm_layRoad) 75 = .ok (.iconst 1, 1) := by decide +kernel
theorem d_Nm_layRoad_76 : decode (kB K_Nm_layRoad) 76 = .ok (.isub, 1) := by decide +kernel
theorem d_Nm_layRoad_77 : decode (kB K_Nm_layRoad) 77 = .ok (.invokevirtual 108, 3) := by decide +kernel
theorem d_Nm_layRoad_80 : decode (kB K_Nm_layRoad) 80 = .ok (.lload_n 2, 1) := by decide +kernel
theorem d_Nm_layRoad_81 : decode (kB K_Nm_layRoad) 81 = .ok (.l2i, 1) := by decide +kernel
theorem d_Nm_layRoad_82 : decode (kB K_Nm_layRoad) 82 = .ok (.invokevirtual 117, 3) := by decide +kernel
theorem d_Nm_layRoad_85 : decode (kB K_Nm_layRoad) 85 = .ok (.return_, 1) := by decide +kernel
def K_Nm_countOrder : KM := (⟨"ParishBoards$Names", "countOrder", "(I)V"⟩, prog_7_method_9_code, 2, none, "ParishBoards$Names", ([], []))
theorem d_Nm_countOrder_0 : decode (kB K_Nm_countOrder) 0 = .ok (.aload_n 0, 1) := by decide +kernel
theorem d_Nm_countOrder_1 : decode (kB K_Nm_countOrder) 1 = .ok (.dup, 1) := by decide +kernel
theorem d_Nm_countOrder_2 : decode (kB K_Nm_countOrder) 2 = .ok (.getfield 21, 3) := by decide +kernel
theorem d_Nm_countOrder_5 : decode (kB K_Nm_countOrder) 5 = .ok (.iconst 1, 1) := by decide +kernel
theorem d_Nm_countOrder_6 : decode (kB K_Nm_countOrder) 6 = .ok (.iadd, 1) := by decide +kernel
theorem d_Nm_countOrder_7 : decode (kB K_Nm_countOrder) 7 = .ok (.putfield 21, 3) := by decide +kernel
theorem d_Nm_countOrder_10 : decode (kB K_Nm_countOrder) 10 = .ok (.aload_n 0, 1) := by decide +kernel
theorem d_Nm_countOrder_11 : decode (kB K_Nm_countOrder) 11 = .ok (.getfield 21, 3) := by decide +kernel
theorem d_Nm_countOrder_14 : decode (kB K_Nm_countOrder) 14 = .ok (.bipush 20, 2) := by decide +kernel
theorem d_Nm_countOrder_16 : decode (kB K_Nm_countOrder) 16 = .ok (.if_icmp .le 9, 3) := by decide +kernel
theorem d_Nm_countOrder_19 : decode (kB K_Nm_countOrder) 19 = .ok (.aload_n 0, 1) := by decide +kernel
theorem d_Nm_countOrder_20 : decode (kB K_Nm_countOrder) 20 = .ok (.iconst 4, 1) := by decide +kernel
theorem d_Nm_countOrder_21 : decode (kB K_Nm_countOrder) 21 = .ok (.iload_n 1, 1) := by decide +kernel
theorem d_Nm_countOrder_22 : decode (kB K_Nm_countOrder) 22 = .ok (.invokevirtual 102, 3) := by decide +kernel
theorem d_Nm_countOrder_25 : decode (kB K_Nm_countOrder) 25 = .ok (.return_, 1) := by decide +kernel
def K_Nm_placeOf : KM := (⟨"ParishBoards$Names", "placeOf", "(J[JI)I"⟩, prog_7_method_10_code, 5, (some (.int)), "ParishBoards$Names", ([], []))
theorem d_Nm_placeOf_0 : decode (kB K_Nm_placeOf) 0 = .ok (.iconst 0, 1) := by decide +kernel
theorem d_Nm_placeOf_1 : decode (kB K_Nm_placeOf) 1 = .ok (.istore 4, 2) := by decide +kernel
theorem d_Nm_placeOf_3 : decode (kB K_Nm_placeOf) 3 = .ok (.iload 4, 2) := by decide +kernel
theorem d_Nm_placeOf_5 : decode (kB K_Nm_placeOf) 5 = .ok (.iload_n 3, 1) := by decide +kernel
theorem d_Nm_placeOf_6 : decode (kB K_Nm_placeOf) 6 = .ok (.if_icmp .ge 28, 3) := by decide +kernel
theorem d_Nm_placeOf_9 : decode (kB K_Nm_placeOf) 9 = .ok (.iload 4, 2) := by decide +kernel
theorem d_Nm_placeOf_11 : decode (kB K_Nm_placeOf) 11 = .ok (.aload_n 2, 1) := by decide +kernel
theorem d_Nm_placeOf_12 : decode (kB K_Nm_placeOf) 12 = .ok (.arraylength, 1) := by decide +kernel
theorem d_Nm_placeOf_13 : decode (kB K_Nm_placeOf) 13 = .ok (.if_icmp .ge 21, 3) := by decide +kernel
theorem d_Nm_placeOf_16 : decode (kB K_Nm_placeOf) 16 = .ok (.aload_n 2, 1) := by decide +kernel
theorem d_Nm_placeOf_17 : decode (kB K_Nm_placeOf) 17 = .ok (.iload 4, 2) := by decide +kernel
theorem d_Nm_placeOf_19 : decode (kB K_Nm_placeOf) 19 = .ok (.laload, 1) := by decide +kernel
theorem d_Nm_placeOf_20 : decode (kB K_Nm_placeOf) 20 = .ok (.lload_n 0, 1) := by decide +kernel
theorem d_Nm_placeOf_21 : decode (kB K_Nm_placeOf) 21 = .ok (.lcmp, 1) := by decide +kernel
theorem d_Nm_placeOf_22 : decode (kB K_Nm_placeOf) 22 = .ok (.ifCond .ne 6, 3) := by decide +kernel
theorem d_Nm_placeOf_25 : decode (kB K_Nm_placeOf) 25 = .ok (.iload 4, 2) := by decide +kernel
theorem d_Nm_placeOf_27 : decode (kB K_Nm_placeOf) 27 = .ok (.ireturn, 1) := by decide +kernel
theorem d_Nm_placeOf_28 : decode (kB K_Nm_placeOf) 28 = .ok (.iinc 4 1, 3) := by decide +kernel
theorem d_Nm_placeOf_31 : decode (kB K_Nm_placeOf) 31 = .ok (.goto (-28), 3) := by decide +kernel
theorem d_Nm_placeOf_34 : decode (kB K_Nm_placeOf) 34 = .ok (.iconst (-1), 1) := by decide +kernel
theorem d_Nm_placeOf_35 : decode (kB K_Nm_placeOf) 35 = .ok (.ireturn, 1) := by decide +kernel
def K_Nm_fail : KM := (⟨"ParishBoards$Names", "fail", "(II)V"⟩, prog_7_method_11_code, 3, none, "ParishBoards$Names", ([], []))
theorem d_Nm_fail_0 : decode (kB K_Nm_fail) 0 = .ok (.aload_n 0, 1) := by decide +kernel
theorem d_Nm_fail_1 : decode (kB K_Nm_fail) 1 = .ok (.getfield 25, 3) := by decide +kernel
theorem d_Nm_fail_4 : decode (kB K_Nm_fail) 4 = .ok (.ifCond .ne 13, 3) := by decide +kernel
theorem d_Nm_fail_7 : decode (kB K_Nm_fail) 7 = .ok (.aload_n 0, 1) := by decide +kernel
theorem d_Nm_fail_8 : decode (kB K_Nm_fail) 8 = .ok (.iload_n 1, 1) := by decide +kernel
theorem d_Nm_fail_9 : decode (kB K_Nm_fail) 9 = .ok (.putfield 25, 3) := by decide +kernel
theorem d_Nm_fail_12 : decode (kB K_Nm_fail) 12 = .ok (.aload_n 0, 1) := by decide +kernel
theorem d_Nm_fail_13 : decode (kB K_Nm_fail) 13 = .ok (.iload_n 2, 1) := by decide +kernel
theorem d_Nm_fail_14 : decode (kB K_Nm_fail) 14 = .ok (.putfield 28, 3) := by decide +kernel
theorem d_Nm_fail_17 : decode (kB K_Nm_fail) 17 = .ok (.return_, 1) := by decide +kernel
def K_Od_init : KM := (⟨"ParishBoards$Order", "<init>", "()V"⟩, prog_8_method_1_code, 1, none, "ParishBoards$Order", ([], []))
theorem d_Od_init_0 : decode (kB K_Od_init) 0 = .ok (.aload_n 0, 1) := by decide +kernel
theorem d_Od_init_1 : decode (kB K_Od_init) 1 = .ok (.invokespecial 3, 3) := by decide +kernel
theorem d_Od_init_4 : decode (kB K_Od_init) 4 = .ok (.aload_n 0, 1) := by decide +kernel
theorem d_Od_init_5 : decode (kB K_Od_init) 5 = .ok (.getstatic 9, 3) := by decide +kernel
theorem d_Od_init_8 : decode (kB K_Od_init) 8 = .ok (.putfield 15, 3) := by decide +kernel
theorem d_Od_init_11 : decode (kB K_Od_init) 11 = .ok (.aload_n 0, 1) := by decide +kernel
theorem d_Od_init_12 : decode (kB K_Od_init) 12 = .ok (.iconst 0, 1) := by decide +kernel
theorem d_Od_init_13 : decode (kB K_Od_init) 13 = .ok (.putfield 20, 3) := by decide +kernel
theorem d_Od_init_16 : decode (kB K_Od_init) 16 = .ok (.aload_n 0, 1) := by decide +kernel
theorem d_Od_init_17 : decode (kB K_Od_init) 17 = .ok (.iconst 0, 1) := by decide +kernel
theorem d_Od_init_18 : decode (kB K_Od_init) 18 = .ok (.putfield 24, 3) := by decide +kernel
theorem d_Od_init_21 : decode (kB K_Od_init) 21 = .ok (.aload_n 0, 1) := by decide +kernel
theorem d_Od_init_22 : decode (kB K_Od_init) 22 = .ok (.iconst 0, 1) := by decide +kernel
theorem d_Od_init_23 : decode (kB K_Od_init) 23 = .ok (.putfield 27, 3) := by decide +kernel
theorem d_Od_init_26 : decode (kB K_Od_init) 26 = .ok (.aload_n 0, 1) := by decide +kernel
theorem d_Od_init_27 : decode (kB K_Od_init) 27 = .ok (.iconst 0, 1) := by decide +kernel
theorem d_Od_init_28 : decode (kB K_Od_init) 28 = .ok (.putfield 30, 3) := by decide +kernel
theorem d_Od_init_31 : decode (kB K_Od_init) 31 = .ok (.aload_n 0, 1) := by decide +kernel
theorem d_Od_init_32 : decode (kB K_Od_init) 32 = .ok (.iconst 0, 1) := by decide +kernel
theorem d_Od_init_33 : decode (kB K_Od_init) 33 = .ok (.putfield 33, 3) := by decide +kernel
theorem d_Od_init_36 : decode (kB K_Od_init) 36 = .ok (.aload_n 0, 1) := by decide +kernel
theorem d_Od_init_37 : decode (kB K_Od_init) 37 = .ok (.iconst 0, 1) := by decide +kernel
theorem d_Od_init_38 : decode (kB K_Od_init) 38 = .ok (.putfield 36, 3) := by decide +kernel
theorem d_Od_init_41 : decode (kB K_Od_init) 41 = .ok (.aload_n 0, 1) := by decide +kernel
theorem d_Od_init_42 : decode (kB K_Od_init) 42 = .ok (.iconst 0, 1) := by decide +kernel
theorem d_Od_init_43 : decode (kB K_Od_init) 43 = .ok (.putfield 39, 3) := by decide +kernel
theorem d_Od_init_46 : decode (kB K_Od_init) 46 = .ok (.aload_n 0, 1) := by decide +kernel
theorem d_Od_init_47 : decode (kB K_Od_init) 47 = .ok (.iconst 0, 1) := by decide +kernel
theorem d_Od_init_48 : decode (kB K_Od_init) 48 = .ok (.putfield 42, 3) := by decide +kernel
theorem d_Od_init_51 : decode (kB K_Od_init) 51 = .ok (.return_, 1) := by decide +kernel
def K_Od_settle : KM := (⟨"ParishBoards$Order", "settle", "(LParishBoards$Tokens;)V"⟩, prog_8_method_2_code, 3, none, "ParishBoards$Order", ([], []))
theorem d_Od_settle_0 : decode (kB K_Od_settle) 0 = .ok (.aload_n 1, 1) := by decide +kernel
theorem d_Od_settle_1 : decode (kB K_Od_settle) 1 = .ok (.aload_n 0, 1) := by decide +kernel
theorem d_Od_settle_2 : decode (kB K_Od_settle) 2 = .ok (.getfield 20, 3) := by decide +kernel
theorem d_Od_settle_5 : decode (kB K_Od_settle) 5 = .ok (.iconst 1, 1) := by decide +kernel
theorem d_Od_settle_6 : decode (kB K_Od_settle) 6 = .ok (.iadd, 1) := by decide +kernel
theorem d_Od_settle_7 : decode (kB K_Od_settle) 7 = .ok (.invokevirtual 45, 3) := by decide +kernel
theorem d_Od_settle_10 : decode (kB K_Od_settle) 10 = .ok (.istore_n 2, 1) := by decide +kernel
theorem d_Od_settle_11 : decode (kB K_Od_settle) 11 = .ok (.aload_n 0, 1) := by decide +kernel
theorem d_Od_settle_12 : decode (kB K_Od_settle) 12 = .ok (.getfield 15, 3) := by decide +kernel
theorem d_Od_settle_15 : decode (kB K_Od_settle) 15 = .ok (.getstatic 9, 3) := by decide +kernel
theorem d_Od_settle_18 : decode (kB K_Od_settle) 18 = .ok (.if_acmp .ne 11, 3) := by decide +kernel
theorem d_Od_settle_21 : decode (kB K_Od_settle) 21 = .ok (.aload_n 0, 1) := by decide +kernel
theorem d_Od_settle_22 : decode (kB K_Od_settle) 22 = .ok (.iload_n 2, 1) := by decide +kernel
theorem d_Od_settle_23 : decode (kB K_Od_settle) 23 = .ok (.putfield 30, 3) := by decide +kernel
theorem d_Od_settle_26 : decode (kB K_Od_settle) 26 = .ok (.goto 22, 3) := by decide +kernel
theorem d_Od_settle_29 : decode (kB K_Od_settle) 29 = .ok (.aload_n 0, 1) := by decide +kernel
theorem d_Od_settle_30 : decode (kB K_Od_settle) 30 = .ok (.iload_n 2, 1) := by decide +kernel
theorem d_Od_settle_31 : decode (kB K_Od_settle) 31 = .ok (.putfield 24, 3) := by decide +kernel
theorem d_Od_settle_34 : decode (kB K_Od_settle) 34 = .ok (.aload_n 0, 1) := by decide +kernel
theorem d_Od_settle_35 : decode (kB K_Od_settle) 35 = .ok (.aload_n 1, 1) := by decide +kernel
theorem d_Od_settle_36 : decode (kB K_Od_settle) 36 = .ok (.aload_n 0, 1) := by decide +kernel
theorem d_Od_settle_37 : decode (kB K_Od_settle) 37 = .ok (.getfield 20, 3) := by decide +kernel
theorem d_Od_settle_40 : decode (kB K_Od_settle) 40 = .ok (.iconst 2, 1) := by decide +kernel
theorem d_Od_settle_41 : decode (kB K_Od_settle) 41 = .ok (.iadd, 1) := by decide +kernel
theorem d_Od_settle_42 : decode (kB K_Od_settle) 42 = .ok (.invokevirtual 45, 3) := by decide +kernel
theorem d_Od_settle_45 : decode (kB K_Od_settle) 45 = .ok (.putfield 27, 3) := by decide +kernel
theorem d_Od_settle_48 : decode (kB K_Od_settle) 48 = .ok (.return_, 1) := by decide +kernel
def K_Od_hasTest : KM := (⟨"ParishBoards$Order", "hasTest", "()Z"⟩, prog_8_method_3_code, 1, (some (.boolean)), "ParishBoards$Order", ([], []))
theorem d_Od_hasTest_0 : decode (kB K_Od_hasTest) 0 = .ok (.aload_n 0, 1) := by decide +kernel
theorem d_Od_hasTest_1 : decode (kB K_Od_hasTest) 1 = .ok (.getfield 42, 3) := by decide +kernel
theorem d_Od_hasTest_4 : decode (kB K_Od_hasTest) 4 = .ok (.aload_n 0, 1) := by decide +kernel
theorem d_Od_hasTest_5 : decode (kB K_Od_hasTest) 5 = .ok (.getfield 39, 3) := by decide +kernel
theorem d_Od_hasTest_8 : decode (kB K_Od_hasTest) 8 = .ok (.if_icmp .le 7, 3) := by decide +kernel
theorem d_Od_hasTest_11 : decode (kB K_Od_hasTest) 11 = .ok (.iconst 1, 1) := by decide +kernel
theorem d_Od_hasTest_12 : decode (kB K_Od_hasTest) 12 = .ok (.goto 4, 3) := by decide +kernel
theorem d_Od_hasTest_15 : decode (kB K_Od_hasTest) 15 = .ok (.iconst 0, 1) := by decide +kernel
theorem d_Od_hasTest_16 : decode (kB K_Od_hasTest) 16 = .ok (.ireturn, 1) := by decide +kernel
def K_Pl_init : KM := (⟨"ParishBoards$Plan", "<init>", "()V"⟩, prog_9_method_1_code, 2, none, "ParishBoards$Plan", ([], []))
theorem d_Pl_init_0 : decode (kB K_Pl_init) 0 = .ok (.aload_n 0, 1) := by decide +kernel
theorem d_Pl_init_1 : decode (kB K_Pl_init) 1 = .ok (.invokespecial 3, 3) := by decide +kernel
theorem d_Pl_init_4 : decode (kB K_Pl_init) 4 = .ok (.aload_n 0, 1) := by decide +kernel
theorem d_Pl_init_5 : decode (kB K_Pl_init) 5 = .ok (.new 9, 3) := by decide +kernel
theorem d_Pl_init_8 : decode (kB K_Pl_init) 8 = .ok (.dup, 1) := by decide +kernel
theorem d_Pl_init_9 : decode (kB K_Pl_init) 9 = .ok (.invokespecial 11, 3) := by decide +kernel
theorem d_Pl_init_12 : decode (kB K_Pl_init) 12 = .ok (.putfield 12, 3) := by decide +kernel
theorem d_Pl_init_15 : decode (kB K_Pl_init) 15 = .ok (.aload_n 0, 1) := by decide +kernel
theorem d_Pl_init_16 : decode (kB K_Pl_init) 16 = .ok (.bipush 8, 2) := by decide +kernel
theorem d_Pl_init_18 : decode (kB K_Pl_init) 18 = .ok (.anewarray 18, 3) := by decide +kernel
theorem d_Pl_init_21 : decode (kB K_Pl_init) 21 = .ok (.putfield 20, 3) := by decide +kernel
theorem d_Pl_init_24 : decode (kB K_Pl_init) 24 = .ok (.aload_n 0, 1) := by decide +kernel
theorem d_Pl_init_25 : decode (kB K_Pl_init) 25 = .ok (.bipush 21, 2) := by decide +kernel
theorem d_Pl_init_27 : decode (kB K_Pl_init) 27 = .ok (.anewarray 24, 3) := by decide +kernel
theorem d_Pl_init_30 : decode (kB K_Pl_init) 30 = .ok (.putfield 26, 3) := by decide +kernel
theorem d_Pl_init_33 : decode (kB K_Pl_init) 33 = .ok (.aload_n 0, 1) := by decide +kernel
theorem d_Pl_init_34 : decode (kB K_Pl_init) 34 = .ok (.iconst 0, 1) := by decide +kernel
theorem d_Pl_init_35 : decode (kB K_Pl_init) 35 = .ok (.putfield 30, 3) := by decide +kernel
theorem d_Pl_init_38 : decode (kB K_Pl_init) 38 = .ok (.aload_n 0, 1) := by decide +kernel
theorem d_Pl_init_39 : decode (kB K_Pl_init) 39 = .ok (.iconst 0, 1) := by decide +kernel
theorem d_Pl_init_40 : decode (kB K_Pl_init) 40 = .ok (.putfield 34, 3) := by decide +kernel
theorem d_Pl_init_43 : decode (kB K_Pl_init) 43 = .ok (.aload_n 0, 1) := by decide +kernel
theorem d_Pl_init_44 : decode (kB K_Pl_init) 44 = .ok (.iconst 0, 1) := by decide +kernel
theorem d_Pl_init_45 : decode (kB K_Pl_init) 45 = .ok (.putfield 37, 3) := by decide +kernel
theorem d_Pl_init_48 : decode (kB K_Pl_init) 48 = .ok (.aload_n 0, 1) := by decide +kernel
theorem d_Pl_init_49 : decode (kB K_Pl_init) 49 = .ok (.iconst 0, 1) := by decide +kernel
theorem d_Pl_init_50 : decode (kB K_Pl_init) 50 = .ok (.putfield 40, 3) := by decide +kernel
theorem d_Pl_init_53 : decode (kB K_Pl_init) 53 = .ok (.iconst 0, 1) := by decide +kernel
theorem d_Pl_init_54 : decode (kB K_Pl_init) 54 = .ok (.istore_n 1, 1) := by decide +kernel
theorem d_Pl_init_55 : decode (kB K_Pl_init) 55 = .ok (.iload_n 1, 1) := by decide +kernel
theorem d_Pl_init_56 : decode (kB K_Pl_init) 56 = .ok (.aload_n 0, 1) := by decide +kernel
theorem d_Pl_init_57 : decode (kB K_Pl_init) 57 = .ok (.getfield 20, 3) := by decide +kernel
theorem d_Pl_init_60 : decode (kB K_Pl_init) 60 = .ok (.arraylength, 1) := by decide +kernel
theorem d_Pl_init_61 : decode (kB K_Pl_init) 61 = .ok (.if_icmp .ge 22, 3) := by decide +kernel
theorem d_Pl_init_64 : decode (kB K_Pl_init) 64 = .ok (.aload_n 0, 1) := by decide +kernel
theorem d_Pl_init_65 : decode (kB K_Pl_init) 65 = .ok (.getfield 20, 3) := by decide +kernel
theorem d_Pl_init_68 : decode (kB K_Pl_init) 68 = .ok (.iload_n 1, 1) := by decide +kernel
theorem d_Pl_init_69 : decode (kB K_Pl_init) 69 = .ok (.new 18, 3) := by decide +kernel
theorem d_Pl_init_72 : decode (kB K_Pl_init) 72 = .ok (.dup, 1) := by decide +kernel
theorem d_Pl_init_73 : decode (kB K_Pl_init) 73 = .ok (.invokespecial 43, 3) := by decide +kernel
theorem d_Pl_init_76 : decode (kB K_Pl_init) 76 = .ok (.aastore, 1) := by decide +kernel
theorem d_Pl_init_77 : decode (kB K_Pl_init) 77 = .ok (.iinc 1 1, 3) := by decide +kernel
theorem d_Pl_init_80 : decode (kB K_Pl_init) 80 = .ok (.goto (-25), 3) := by decide +kernel
theorem d_Pl_init_83 : decode (kB K_Pl_init) 83 = .ok (.iconst 0, 1) := by decide +kernel
theorem d_Pl_init_84 : decode (kB K_Pl_init) 84 = .ok (.istore_n 1, 1) := by decide +kernel
theorem d_Pl_init_85 : decode (kB K_Pl_init) 85 = .ok (.iload_n 1, 1) := by decide +kernel
theorem d_Pl_init_86 : decode (kB K_Pl_init) 86 = .ok (.aload_n 0, 1) := by decide +kernel
theorem d_Pl_init_87 : decode (kB K_Pl_init) 87 = .ok (.getfield 26, 3) := by decide +kernel
theorem d_Pl_init_90 : decode (kB K_Pl_init) 90 = .ok (.arraylength, 1) := by decide +kernel
theorem d_Pl_init_91 : decode (kB K_Pl_init) 91 = .ok (.if_icmp .ge 22, 3) := by decide +kernel
theorem d_Pl_init_94 : decode (kB K_Pl_init) 94 = .ok (.aload_n 0, 1) := by decide +kernel
theorem d_Pl_init_95 : decode (kB K_Pl_init) 95 = .ok (.getfield 26, 3) := by decide +kernel
theorem d_Pl_init_98 : decode (kB K_Pl_init) 98 = .ok (.iload_n 1, 1) := by decide +kernel
theorem d_Pl_init_99 : decode (kB K_Pl_init) 99 = .ok (.new 24, 3) := by decide +kernel
theorem d_Pl_init_102 : decode (kB K_Pl_init) 102 = .ok (.dup, 1) := by decide +kernel
theorem d_Pl_init_103 : decode (kB K_Pl_init) 103 = .ok (.invokespecial 44, 3) := by decide +kernel
theorem d_Pl_init_106 : decode (kB K_Pl_init) 106 = .ok (.aastore, 1) := by decide +kernel
theorem d_Pl_init_107 : decode (kB K_Pl_init) 107 = .ok (.iinc 1 1, 3) := by decide +kernel
theorem d_Pl_init_110 : decode (kB K_Pl_init) 110 = .ok (.goto (-25), 3) := by decide +kernel
theorem d_Pl_init_113 : decode (kB K_Pl_init) 113 = .ok (.return_, 1) := by decide +kernel
def K_Pl_clear : KM := (⟨"ParishBoards$Plan", "clear", "()V"⟩, prog_9_method_2_code, 1, none, "ParishBoards$Plan", ([], []))
theorem d_Pl_clear_0 : decode (kB K_Pl_clear) 0 = .ok (.aload_n 0, 1) := by decide +kernel
theorem d_Pl_clear_1 : decode (kB K_Pl_clear) 1 = .ok (.getfield 12, 3) := by decide +kernel
theorem d_Pl_clear_4 : decode (kB K_Pl_clear) 4 = .ok (.iconst 0, 1) := by decide +kernel
theorem d_Pl_clear_5 : decode (kB K_Pl_clear) 5 = .ok (.putfield 45, 3) := by decide +kernel
theorem d_Pl_clear_8 : decode (kB K_Pl_clear) 8 = .ok (.aload_n 0, 1) := by decide +kernel
theorem d_Pl_clear_9 : decode (kB K_Pl_clear) 9 = .ok (.iconst 0, 1) := by decide +kernel
theorem d_Pl_clear_10 : decode (kB K_Pl_clear) 10 = .ok (.putfield 30, 3) := by decide +kernel
theorem d_Pl_clear_13 : decode (kB K_Pl_clear) 13 = .ok (.aload_n 0, 1) := by decide +kernel
theorem d_Pl_clear_14 : decode (kB K_Pl_clear) 14 = .ok (.iconst 0, 1) := by decide +kernel
theorem d_Pl_clear_15 : decode (kB K_Pl_clear) 15 = .ok (.putfield 34, 3) := by decide +kernel
theorem d_Pl_clear_18 : decode (kB K_Pl_clear) 18 = .ok (.aload_n 0, 1) := by decide +kernel
theorem d_Pl_clear_19 : decode (kB K_Pl_clear) 19 = .ok (.iconst 0, 1) := by decide +kernel
theorem d_Pl_clear_20 : decode (kB K_Pl_clear) 20 = .ok (.putfield 37, 3) := by decide +kernel
theorem d_Pl_clear_23 : decode (kB K_Pl_clear) 23 = .ok (.aload_n 0, 1) := by decide +kernel
theorem d_Pl_clear_24 : decode (kB K_Pl_clear) 24 = .ok (.iconst 0, 1) := by decide +kernel
theorem d_Pl_clear_25 : decode (kB K_Pl_clear) 25 = .ok (.putfield 40, 3) := by decide +kernel
theorem d_Pl_clear_28 : decode (kB K_Pl_clear) 28 = .ok (.return_, 1) := by decide +kernel
def K_Pl_nextOrder : KM := (⟨"ParishBoards$Plan", "nextOrder", "()LParishBoards$Order;"⟩, prog_9_method_3_code, 2, (some (.object "ParishBoards$Order")), "ParishBoards$Plan", ([], []))
theorem d_Pl_nextOrder_0 : decode (kB K_Pl_nextOrder) 0 = .ok (.aload_n 0, 1) := by decide +kernel
theorem d_Pl_nextOrder_1 : decode (kB K_Pl_nextOrder) 1 = .ok (.getfield 26, 3) := by decide +kernel
theorem d_Pl_nextOrder_4 : decode (kB K_Pl_nextOrder) 4 = .ok (.aload_n 0, 1) := by decide +kernel
theorem d_Pl_nextOrder_5 : decode (kB K_Pl_nextOrder) 5 = .ok (.getfield 40, 3) := by decide +kernel
theorem d_Pl_nextOrder_8 : decode (kB K_Pl_nextOrder) 8 = .ok (.aaload, 1) := by decide +kernel
theorem d_Pl_nextOrder_9 : decode (kB K_Pl_nextOrder) 9 = .ok (.astore_n 1, 1) := by decide +kernel
theorem d_Pl_nextOrder_10 : decode (kB K_Pl_nextOrder) 10 = .ok (.aload_n 0, 1) := by decide +kernel
theorem d_Pl_nextOrder_11 : decode (kB K_Pl_nextOrder) 11 = .ok (.getfield 40, 3) := by decide +kernel
theorem d_Pl_nextOrder_14 : decode (kB K_Pl_nextOrder) 14 = .ok (.bipush 20, 2) := by decide +kernel
theorem d_Pl_nextOrder_16 : decode (kB K_Pl_nextOrder) 16 = .ok (.if_icmp .ge 13, 3) := by decide +kernel
theorem d_Pl_nextOrder_19 : decode (kB K_Pl_nextOrder) 19 = .ok (.aload_n 0, 1) := by decide +kernel
theorem d_Pl_nextOrder_20 : decode (kB K_Pl_nextOrder) 20 = .ok (.dup, 1) := by decide +kernel
theorem d_Pl_nextOrder_21 : decode (kB K_Pl_nextOrder) 21 = .ok (.getfield 40, 3) := by decide +kernel
theorem d_Pl_nextOrder_24 : decode (kB K_Pl_nextOrder) 24 = .ok (.iconst 1, 1) := by decide +kernel
theorem d_Pl_nextOrder_25 : decode (kB K_Pl_nextOrder) 25 = .ok (.iadd, 1) := by decide +kernel
theorem d_Pl_nextOrder_26 : decode (kB K_Pl_nextOrder) 26 = .ok (.putfield 40, 3) := by decide +kernel
theorem d_Pl_nextOrder_29 : decode (kB K_Pl_nextOrder) 29 = .ok (.aload_n 1, 1) := by decide +kernel
theorem d_Pl_nextOrder_30 : decode (kB K_Pl_nextOrder) 30 = .ok (.areturn, 1) := by decide +kernel
def K_Pl_settle : KM := (⟨"ParishBoards$Plan", "settle", "(LParishBoards$Tokens;)V"⟩, prog_9_method_4_code, 3, none, "ParishBoards$Plan", ([], []))
theorem d_Pl_settle_0 : decode (kB K_Pl_settle) 0 = .ok (.aload_n 0, 1) := by decide +kernel
theorem d_Pl_settle_1 : decode (kB K_Pl_settle) 1 = .ok (.getfield 12, 3) := by decide +kernel
theorem d_Pl_settle_4 : decode (kB K_Pl_settle) 4 = .ok (.aload_n 1, 1) := by decide +kernel
theorem d_Pl_settle_5 : decode (kB K_Pl_settle) 5 = .ok (.invokevirtual 48, 3) := by decide +kernel
theorem d_Pl_settle_8 : decode (kB K_Pl_settle) 8 = .ok (.iconst 0, 1) := by decide +kernel
theorem d_Pl_settle_9 : decode (kB K_Pl_settle) 9 = .ok (.istore_n 2, 1) := by decide +kernel
theorem d_Pl_settle_10 : decode (kB K_Pl_settle) 10 = .ok (.iload_n 2, 1) := by decide +kernel
theorem d_Pl_settle_11 : decode (kB K_Pl_settle) 11 = .ok (.aload_n 0, 1) := by decide +kernel
theorem d_Pl_settle_12 : decode (kB K_Pl_settle) 12 = .ok (.getfield 40, 3) := by decide +kernel
theorem d_Pl_settle_15 : decode (kB K_Pl_settle) 15 = .ok (.if_icmp .ge 19, 3) := by decide +kernel
theorem d_Pl_settle_18 : decode (kB K_Pl_settle) 18 = .ok (.aload_n 0, 1) := by decide +kernel
theorem d_Pl_settle_19 : decode (kB K_Pl_settle) 19 = .ok (.getfield 26, 3) := by decide +kernel
theorem d_Pl_settle_22 : decode (kB K_Pl_settle) 22 = .ok (.iload_n 2, 1) := by decide +kernel
theorem d_Pl_settle_23 : decode (kB K_Pl_settle) 23 = .ok (.aaload, 1) := by decide +kernel
theorem d_Pl_settle_24 : decode (kB K_Pl_settle) 24 = .ok (.aload_n 1, 1) := by decide +kernel
theorem d_Pl_settle_25 : decode (kB K_Pl_settle) 25 = .ok (.invokevirtual 52, 3) := by decide +kernel
theorem d_Pl_settle_28 : decode (kB K_Pl_settle) 28 = .ok (.iinc 2 1, 3) := by decide +kernel
theorem d_Pl_settle_31 : decode (kB K_Pl_settle) 31 = .ok (.goto (-21), 3) := by decide +kernel
theorem d_Pl_settle_34 : decode (kB K_Pl_settle) 34 = .ok (.return_, 1) := by decide +kernel
def K_Rd_init : KM := (⟨"ParishBoards$Road", "<init>", "()V"⟩, prog_10_method_1_code, 1, none, "ParishBoards$Road", ([], []))
theorem d_Rd_init_0 : decode (kB K_Rd_init) 0 = .ok (.aload_n 0, 1) := by decide +kernel
theorem d_Rd_init_1 : decode (kB K_Rd_init) 1 = .ok (.invokespecial 3, 3) := by decide +kernel
theorem d_Rd_init_4 : decode (kB K_Rd_init) 4 = .ok (.aload_n 0, 1) := by decide +kernel
theorem d_Rd_init_5 : decode (kB K_Rd_init) 5 = .ok (.bipush 60, 2) := by decide +kernel
theorem d_Rd_init_7 : decode (kB K_Rd_init) 7 = .ok (.newarray .int, 2) := by decide +kernel
theorem d_Rd_init_9 : decode (kB K_Rd_init) 9 = .ok (.putfield 9, 3) := by decide +kernel
theorem d_Rd_init_12 : decode (kB K_Rd_init) 12 = .ok (.aload_n 0, 1) := by decide +kernel
theorem d_Rd_init_13 : decode (kB K_Rd_init) 13 = .ok (.iconst 0, 1) := by decide +kernel
theorem d_Rd_init_14 : decode (kB K_Rd_init) 14 = .ok (.putfield 15, 3) := by decide +kernel
theorem d_Rd_init_17 : decode (kB K_Rd_init) 17 = .ok (.aload_n 0, 1) := by decide +kernel
theorem d_Rd_init_18 : decode (kB K_Rd_init) 18 = .ok (.iconst 0, 1) := by decide +kernel
theorem d_Rd_init_19 : decode (kB K_Rd_init) 19 = .ok (.putfield 19, 3) := by decide +kernel
theorem d_Rd_init_22 : decode (kB K_Rd_init) 22 = .ok (.aload_n 0, 1) := by decide +kernel
theorem d_Rd_init_23 : decode (kB K_Rd_init) 23 = .ok (.iconst 1, 1) := by decide +kernel
theorem d_Rd_init_24 : decode (kB K_Rd_init) 24 = .ok (.putfield 22, 3) := by decide +kernel
theorem d_Rd_init_27 : decode (kB K_Rd_init) 27 = .ok (.aload_n 0, 1) := by decide +kernel
theorem d_Rd_init_28 : decode (kB K_Rd_init) 28 = .ok (.iconst 0, 1) := by decide +kernel
theorem d_Rd_init_29 : decode (kB K_Rd_init) 29 = .ok (.putfield 25, 3) := by decide +kernel
theorem d_Rd_init_32 : decode (kB K_Rd_init) 32 = .ok (.return_, 1) := by decide +kernel
def K_Rd_lay : KM := (⟨"ParishBoards$Road", "lay", "(III)V"⟩, prog_10_method_2_code, 5, none, "ParishBoards$Road", ([], []))
theorem d_Rd_lay_0 : decode (kB K_Rd_lay) 0 = .ok (.aload_n 0, 1) := by decide +kernel
theorem d_Rd_lay_1 : decode (kB K_Rd_lay) 1 = .ok (.iload_n 1, 1) := by decide +kernel
theorem d_Rd_lay_2 : decode (kB K_Rd_lay) 2 = .ok (.putfield 15, 3) := by decide +kernel
theorem d_Rd_lay_5 : decode (kB K_Rd_lay) 5 = .ok (.aload_n 0, 1) := by decide +kernel
theorem d_Rd_lay_6 : decode (kB K_Rd_lay) 6 = .ok (.iload_n 2, 1) := by decide +kernel
theorem d_Rd_lay_7 : decode (kB K_Rd_lay) 7 = .ok (.putfield 19, 3) := by decide +kernel
theorem d_Rd_lay_10 : decode (kB K_Rd_lay) 10 = .ok (.aload_n 0, 1) := by decide +kernel
theorem d_Rd_lay_11 : decode (kB K_Rd_lay) 11 = .ok (.iload_n 3, 1) := by decide +kernel
theorem d_Rd_lay_12 : decode (kB K_Rd_lay) 12 = .ok (.putfield 22, 3) := by decide +kernel
theorem d_Rd_lay_15 : decode (kB K_Rd_lay) 15 = .ok (.aload_n 0, 1) := by decide +kernel
theorem d_Rd_lay_16 : decode (kB K_Rd_lay) 16 = .ok (.iconst 0, 1) := by decide +kernel
theorem d_Rd_lay_17 : decode (kB K_Rd_lay) 17 = .ok (.putfield 25, 3) := by decide +kernel
theorem d_Rd_lay_20 : decode (kB K_Rd_lay) 20 = .ok (.iconst 0, 1) := by decide +kernel
theorem d_Rd_lay_21 : decode (kB K_Rd_lay) 21 = .ok (.istore 4, 2) := by decide +kernel
theorem d_Rd_lay_23 : decode (kB K_Rd_lay) 23 = .ok (.iload 4, 2) := by decide +kernel
theorem d_Rd_lay_25 : decode (kB K_Rd_lay) 25 = .ok (.aload_n 0, 1) := by decide +kernel
theorem d_Rd_lay_26 : decode (kB K_Rd_lay) 26 = .ok (.getfield 9, 3) := by decide +kernel
theorem d_Rd_lay_29 : decode (kB K_Rd_lay) 29 = .ok (.arraylength, 1) := by decide +kernel
theorem d_Rd_lay_30 : decode (kB K_Rd_lay) 30 = .ok (.if_icmp .ge 17, 3) := by decide +kernel
theorem d_Rd_lay_33 : decode (kB K_Rd_lay) 33 = .ok (.aload_n 0, 1) := by decide +kernel
theorem d_Rd_lay_34 : decode (kB K_Rd_lay) 34 = .ok (.getfield 9, 3) := by decide +kernel
theorem d_Rd_lay_37 : decode (kB K_Rd_lay) 37 = .ok (.iload 4, 2) := by decide +kernel
theorem d_Rd_lay_39 : decode (kB K_Rd_lay) 39 = .ok (.iconst (-1), 1) := by decide +kernel
theorem d_Rd_lay_40 : decode (kB K_Rd_lay) 40 = .ok (.iastore, 1) := by decide +kernel
theorem d_Rd_lay_41 : decode (kB K_Rd_lay) 41 = .ok (.iinc 4 1, 3) := by decide +kernel
theorem d_Rd_lay_44 : decode (kB K_Rd_lay) 44 = .ok (.goto (-21), 3) := by decide +kernel
theorem d_Rd_lay_47 : decode (kB K_Rd_lay) 47 = .ok (.return_, 1) := by decide +kernel
def K_Rd_copyFrom : KM := (⟨"ParishBoards$Road", "copyFrom", "(LParishBoards$Road;)V"⟩, prog_10_method_3_code, 2, none, "ParishBoards$Road", ([], []))
theorem d_Rd_copyFrom_0 : decode (kB K_Rd_copyFrom) 0 = .ok (.aload_n 1, 1) := by decide +kernel
theorem d_Rd_copyFrom_1 : decode (kB K_Rd_copyFrom) 1 = .ok (.getfield 9, 3) := by decide +kernel
theorem d_Rd_copyFrom_4 : decode (kB K_Rd_copyFrom) 4 = .ok (.iconst 0, 1) := by decide +kernel
theorem d_Rd_copyFrom_5 : decode (kB K_Rd_copyFrom) 5 = .ok (.aload_n 0, 1) := by decide +kernel
theorem d_Rd_copyFrom_6 : decode (kB K_Rd_copyFrom) 6 = .ok (.getfield 9, 3) := by decide +kernel
theorem d_Rd_copyFrom_9 : decode (kB K_Rd_copyFrom) 9 = .ok (.iconst 0, 1) := by decide +kernel
theorem d_Rd_copyFrom_10 : decode (kB K_Rd_copyFrom) 10 = .ok (.aload_n 0, 1) := by decide +kernel
theorem d_Rd_copyFrom_11 : decode (kB K_Rd_copyFrom) 11 = .ok (.getfield 9, 3) := by decide +kernel
theorem d_Rd_copyFrom_14 : decode (kB K_Rd_copyFrom) 14 = .ok (.arraylength, 1) := by decide +kernel
theorem d_Rd_copyFrom_15 : decode (kB K_Rd_copyFrom) 15 = .ok (.invokestatic 28, 3) := by decide +kernel
theorem d_Rd_copyFrom_18 : decode (kB K_Rd_copyFrom) 18 = .ok (.aload_n 0, 1) := by decide +kernel
theorem d_Rd_copyFrom_19 : decode (kB K_Rd_copyFrom) 19 = .ok (.aload_n 1, 1) := by decide +kernel
theorem d_Rd_copyFrom_20 : decode (kB K_Rd_copyFrom) 20 = .ok (.getfield 15, 3) := by decide +kernel
theorem d_Rd_copyFrom_23 : decode (kB K_Rd_copyFrom) 23 = .ok (.putfield 15, 3) := by decide +kernel
theorem d_Rd_copyFrom_26 : decode (kB K_Rd_copyFrom) 26 = .ok (.aload_n 0, 1) := by decide +kernel
theorem d_Rd_copyFrom_27 : decode (kB K_Rd_copyFrom) 27 = .ok (.aload_n 1, 1) := by decide +kernel
theorem d_Rd_copyFrom_28 : decode (kB K_Rd_copyFrom) 28 = .ok (.getfield 19, 3) := by decide +kernel
theorem d_Rd_copyFrom_31 : decode (kB K_Rd_copyFrom) 31 = .ok (.putfield 19, 3) := by decide +kernel
theorem d_Rd_copyFrom_34 : decode (kB K_Rd_copyFrom) 34 = .ok (.aload_n 0, 1) := by decide +kernel
theorem d_Rd_copyFrom_35 : decode (kB K_Rd_copyFrom) 35 = .ok (.aload_n 1, 1) := by decide +kernel
theorem d_Rd_copyFrom_36 : decode (kB K_Rd_copyFrom) 36 = .ok (.getfield 22, 3) := by decide +kernel
theorem d_Rd_copyFrom_39 : decode (kB K_Rd_copyFrom) 39 = .ok (.putfield 22, 3) := by decide +kernel
theorem d_Rd_copyFrom_42 : decode (kB K_Rd_copyFrom) 42 = .ok (.aload_n 0, 1) := by decide +kernel
theorem d_Rd_copyFrom_43 : decode (kB K_Rd_copyFrom) 43 = .ok (.aload_n 1, 1) := by decide +kernel
theorem d_Rd_copyFrom_44 : decode (kB K_Rd_copyFrom) 44 = .ok (.getfield 25, 3) := by decide +kernel
theorem d_Rd_copyFrom_47 : decode (kB K_Rd_copyFrom) 47 = .ok (.putfield 25, 3) := by decide +kernel
theorem d_Rd_copyFrom_50 : decode (kB K_Rd_copyFrom) 50 = .ok (.return_, 1) := by decide +kernel
def K_Sh_init : KM := (⟨"ParishBoards$Sheet", "<init>", "()V"⟩, prog_11_method_1_code, 1, none, "ParishBoards$Sheet", ([], []))
theorem d_Sh_init_0 : decode (kB K_Sh_init) 0 = .ok (.aload_n 0, 1) := by decide +kernel
theorem d_Sh_init_1 : decode (kB K_Sh_init) 1 = .ok (.invokespecial 3, 3) := by decide +kernel
theorem d_Sh_init_4 : decode (kB K_Sh_init) 4 = .ok (.aload_n 0, 1) := by decide +kernel
theorem d_Sh_init_5 : decode (kB K_Sh_init) 5 = .ok (.iconst 5, 1) := by decide +kernel
theorem d_Sh_init_6 : decode (kB K_Sh_init) 6 = .ok (.newarray .int, 2) := by decide +kernel
theorem d_Sh_init_8 : decode (kB K_Sh_init) 8 = .ok (.putfield 9, 3) := by decide +kernel
theorem d_Sh_init_11 : decode (kB K_Sh_init) 11 = .ok (.aload_n 0, 1) := by decide +kernel
theorem d_Sh_init_12 : decode (kB K_Sh_init) 12 = .ok (.iconst 0, 1) := by decide +kernel
theorem d_Sh_init_13 : decode (kB K_Sh_init) 13 = .ok (.putfield 15, 3) := by decide +kernel
theorem d_Sh_init_16 : decode (kB K_Sh_init) 16 = .ok (.aload_n 0, 1) := by decide +kernel
theorem d_Sh_init_17 : decode (kB K_Sh_init) 17 = .ok (.iconst 0, 1) := by decide +kernel
theorem d_Sh_init_18 : decode (kB K_Sh_init) 18 = .ok (.putfield 19, 3) := by decide +kernel
theorem d_Sh_init_21 : decode (kB K_Sh_init) 21 = .ok (.aload_n 0, 1) := by decide +kernel
theorem d_Sh_init_22 : decode (kB K_Sh_init) 22 = .ok (.iconst 0, 1) := by decide +kernel
theorem d_Sh_init_23 : decode (kB K_Sh_init) 23 = .ok (.putfield 22, 3) := by decide +kernel
theorem d_Sh_init_26 : decode (kB K_Sh_init) 26 = .ok (.aload_n 0, 1) := by decide +kernel
theorem d_Sh_init_27 : decode (kB K_Sh_init) 27 = .ok (.iconst 0, 1) := by decide +kernel
theorem d_Sh_init_28 : decode (kB K_Sh_init) 28 = .ok (.putfield 25, 3) := by decide +kernel
theorem d_Sh_init_31 : decode (kB K_Sh_init) 31 = .ok (.aload_n 0, 1) := by decide +kernel
theorem d_Sh_init_32 : decode (kB K_Sh_init) 32 = .ok (.iconst 0, 1) := by decide +kernel
theorem d_Sh_init_33 : decode (kB K_Sh_init) 33 = .ok (.putfield 28, 3) := by decide +kernel
theorem d_Sh_init_36 : decode (kB K_Sh_init) 36 = .ok (.aload_n 0, 1) := by decide +kernel
theorem d_Sh_init_37 : decode (kB K_Sh_init) 37 = .ok (.iconst 0, 1) := by decide +kernel
theorem d_Sh_init_38 : decode (kB K_Sh_init) 38 = .ok (.putfield 31, 3) := by decide +kernel
theorem d_Sh_init_41 : decode (kB K_Sh_init) 41 = .ok (.return_, 1) := by decide +kernel
def K_Sh_isAheadOf : KM := (⟨"ParishBoards$Sheet", "isAheadOf", "(LParishBoards$Sheet;)Z"⟩, prog_11_method_3_code, 2, (some (.boolean)), "ParishBoards$Sheet", ([], []))
theorem d_Sh_isAheadOf_0 : decode (kB K_Sh_isAheadOf) 0 = .ok (.aload_n 1, 1) := by decide +kernel
theorem d_Sh_isAheadOf_1 : decode (kB K_Sh_isAheadOf) 1 = .ok (.getfield 9, 3) := by decide +kernel
theorem d_Sh_isAheadOf_4 : decode (kB K_Sh_isAheadOf) 4 = .ok (.aload_n 0, 1) := by decide +kernel
theorem d_Sh_isAheadOf_5 : decode (kB K_Sh_isAheadOf) 5 = .ok (.getfield 15, 3) := by decide +kernel
theorem d_Sh_isAheadOf_8 : decode (kB K_Sh_isAheadOf) 8 = .ok (.iaload, 1) := by decide +kernel
theorem d_Sh_isAheadOf_9 : decode (kB K_Sh_isAheadOf) 9 = .ok (.aload_n 0, 1) := by decide +kernel
theorem d_Sh_isAheadOf_10 : decode (kB K_Sh_isAheadOf) 10 = .ok (.getfield 9, 3) := by decide +kernel
theorem d_Sh_isAheadOf_13 : decode (kB K_Sh_isAheadOf) 13 = .ok (.aload_n 0, 1) := by decide +kernel
theorem d_Sh_isAheadOf_14 : decode (kB K_Sh_isAheadOf) 14 = .ok (.getfield 15, 3) := by decide +kernel
theorem d_Sh_isAheadOf_17 : decode (kB K_Sh_isAheadOf) 17 = .ok (.iaload, 1) := by decide +kernel
theorem d_Sh_isAheadOf_18 : decode (kB K_Sh_isAheadOf) 18 = .ok (.if_icmp .lt 7, 3) := by decide +kernel
theorem d_Sh_isAheadOf_21 : decode (kB K_Sh_isAheadOf) 21 = .ok (.iconst 1, 1) := by decide +kernel
theorem d_Sh_isAheadOf_22 : decode (kB K_Sh_isAheadOf) 22 = .ok (.goto 4, 3) := by decide +kernel
theorem d_Sh_isAheadOf_25 : decode (kB K_Sh_isAheadOf) 25 = .ok (.iconst 0, 1) := by decide +kernel
theorem d_Sh_isAheadOf_26 : decode (kB K_Sh_isAheadOf) 26 = .ok (.ireturn, 1) := by decide +kernel
def K_Tk_init : KM := (⟨"ParishBoards$Tokens", "<init>", "()V"⟩, prog_12_method_1_code, 1, none, "ParishBoards$Tokens", ([], []))
theorem d_Tk_init_0 : decode (kB K_Tk_init) 0 = .ok (.aload_n 0, 1) := by decide +kernel
theorem d_Tk_init_1 : decode (kB K_Tk_init) 1 = .ok (.invokespecial 3, 3) := by decide +kernel
theorem d_Tk_init_4 : decode (kB K_Tk_init) 4 = .ok (.aload_n 0, 1) := by decide +kernel
theorem d_Tk_init_5 : decode (kB K_Tk_init) 5 = .ok (.sipush 401, 3) := by decide +kernel
theorem d_Tk_init_8 : decode (kB K_Tk_init) 8 = .ok (.anewarray 9, 3) := by decide +kernel
theorem d_Tk_init_11 : decode (kB K_Tk_init) 11 = .ok (.putfield 11, 3) := by decide +kernel
theorem d_Tk_init_14 : decode (kB K_Tk_init) 14 = .ok (.aload_n 0, 1) := by decide +kernel
theorem d_Tk_init_15 : decode (kB K_Tk_init) 15 = .ok (.sipush 401, 3) := by decide +kernel
theorem d_Tk_init_18 : decode (kB K_Tk_init) 18 = .ok (.newarray .int, 2) := by decide +kernel
theorem d_Tk_init_20 : decode (kB K_Tk_init) 20 = .ok (.putfield 17, 3) := by decide +kernel
theorem d_Tk_init_23 : decode (kB K_Tk_init) 23 = .ok (.aload_n 0, 1) := by decide +kernel
theorem d_Tk_init_24 : decode (kB K_Tk_init) 24 = .ok (.sipush 401, 3) := by decide +kernel
theorem d_Tk_init_27 : decode (kB K_Tk_init) 27 = .ok (.newarray .long, 2) := by decide +kernel
theorem d_Tk_init_29 : decode (kB K_Tk_init) 29 = .ok (.putfield 21, 3) := by decide +kernel
theorem d_Tk_init_32 : decode (kB K_Tk_init) 32 = .ok (.aload_n 0, 1) := by decide +kernel
theorem d_Tk_init_33 : decode (kB K_Tk_init) 33 = .ok (.sipush 401, 3) := by decide +kernel
theorem d_Tk_init_36 : decode (kB K_Tk_init) 36 = .ok (.newarray .int, 2) := by decide +kernel
theorem d_Tk_init_38 : decode (kB K_Tk_init) 38 = .ok (.putfield 25, 3) := by decide +kernel
theorem d_Tk_init_41 : decode (kB K_Tk_init) 41 = .ok (.aload_n 0, 1) := by decide +kernel
theorem d_Tk_init_42 : decode (kB K_Tk_init) 42 = .ok (.iconst 0, 1) := by decide +kernel
theorem d_Tk_init_43 : decode (kB K_Tk_init) 43 = .ok (.putfield 28, 3) := by decide +kernel
theorem d_Tk_init_46 : decode (kB K_Tk_init) 46 = .ok (.aload_n 0, 1) := by decide +kernel
theorem d_Tk_init_47 : decode (kB K_Tk_init) 47 = .ok (.iconst 0, 1) := by decide +kernel
theorem d_Tk_init_48 : decode (kB K_Tk_init) 48 = .ok (.newarray .byte, 2) := by decide +kernel
theorem d_Tk_init_50 : decode (kB K_Tk_init) 50 = .ok (.putfield 32, 3) := by decide +kernel
theorem d_Tk_init_53 : decode (kB K_Tk_init) 53 = .ok (.aload_n 0, 1) := by decide +kernel
theorem d_Tk_init_54 : decode (kB K_Tk_init) 54 = .ok (.iconst 0, 1) := by decide +kernel
theorem d_Tk_init_55 : decode (kB K_Tk_init) 55 = .ok (.putfield 36, 3) := by decide +kernel
theorem d_Tk_init_58 : decode (kB K_Tk_init) 58 = .ok (.return_, 1) := by decide +kernel
def K_Tk_scan : KM := (⟨"ParishBoards$Tokens", "scan", "([BI)V"⟩, prog_12_method_2_code, 6, none, "ParishBoards$Tokens", ([], []))
theorem d_Tk_scan_0 : decode (kB K_Tk_scan) 0 = .ok (.aload_n 0, 1) := by decide +kernel
theorem d_Tk_scan_1 : decode (kB K_Tk_scan) 1 = .ok (.aload_n 1, 1) := by decide +kernel
theorem d_Tk_scan_2 : decode (kB K_Tk_scan) 2 = .ok (.putfield 32, 3) := by decide +kernel
theorem d_Tk_scan_5 : decode (kB K_Tk_scan) 5 = .ok (.aload_n 0, 1) := by decide +kernel
theorem d_Tk_scan_6 : decode (kB K_Tk_scan) 6 = .ok (.iload_n 2, 1) := by decide +kernel
theorem d_Tk_scan_7 : decode (kB K_Tk_scan) 7 = .ok (.putfield 36, 3) := by decide +kernel
theorem d_Tk_scan_10 : decode (kB K_Tk_scan) 10 = .ok (.aload_n 0, 1) := by decide +kernel
theorem d_Tk_scan_11 : decode (kB K_Tk_scan) 11 = .ok (.iconst 0, 1) := by decide +kernel
theorem d_Tk_scan_12 : decode (kB K_Tk_scan) 12 = .ok (.putfield 28, 3) := by decide +kernel
theorem d_Tk_scan_15 : decode (kB K_Tk_scan) 15 = .ok (.iconst 0, 1) := by decide +kernel
theorem d_Tk_scan_16 : decode (kB K_Tk_scan) 16 = .ok (.istore_n 3, 1) := by decide +kernel
theorem d_Tk_scan_17 : decode (kB K_Tk_scan) 17 = .ok (.iconst 1, 1) := by decide +kernel
theorem d_Tk_scan_18 : decode (kB K_Tk_scan) 18 = .ok (.istore 4, 2) := by decide +kernel
theorem d_Tk_scan_20 : decode (kB K_Tk_scan) 20 = .ok (.iload 4, 2) := by decide +kernel
theorem d_Tk_scan_22 : decode (kB K_Tk_scan) 22 = .ok (.ifCond .eq 59, 3) := by decide +kernel
theorem d_Tk_scan_25 : decode (kB K_Tk_scan) 25 = .ok (.aload_n 0, 1) := by decide +kernel
theorem d_Tk_scan_26 : decode (kB K_Tk_scan) 26 = .ok (.getfield 28, 3) := by decide +kernel
theorem d_Tk_scan_29 : decode (kB K_Tk_scan) 29 = .ok (.sipush 400, 3) := by decide +kernel
theorem d_Tk_scan_32 : decode (kB K_Tk_scan) 32 = .ok (.if_icmp .gt 49, 3) := by decide +kernel
theorem d_Tk_scan_35 : decode (kB K_Tk_scan) 35 = .ok (.aload_n 0, 1) := by decide +kernel
theorem d_Tk_scan_36 : decode (kB K_Tk_scan) 36 = .ok (.iload_n 3, 1) := by decide +kernel
theorem d_Tk_scan_37 : decode (kB K_Tk_scan) 37 = .ok (.invokevirtual 39, 3) := by decide +kernel
theorem d_Tk_scan_40 : decode (kB K_Tk_scan) 40 = .ok (.istore_n 3, 1) := by decide +kernel
theorem d_Tk_scan_41 : decode (kB K_Tk_scan) 41 = .ok (.aload_n 0, 1) := by decide +kernel
theorem d_Tk_scan_42 : decode (kB K_Tk_scan) 42 = .ok (.iload_n 3, 1) := by decide +kernel
theorem d_Tk_scan_43 : decode (kB K_Tk_scan) 43 = .ok (.aload_n 0, 1) := by decide +kernel
theorem d_Tk_scan_44 : decode (kB K_Tk_scan) 44 = .ok (.getfield 28, 3) := by decide +kernel
theorem d_Tk_scan_47 : decode (kB K_Tk_scan) 47 = .ok (.invokevirtual 43, 3) := by decide +kernel
theorem d_Tk_scan_50 : decode (kB K_Tk_scan) 50 = .ok (.istore 5, 2) := by decide +kernel
theorem d_Tk_scan_52 : decode (kB K_Tk_scan) 52 = .ok (.iload 5, 2) := by decide +kernel
theorem d_Tk_scan_54 : decode (kB K_Tk_scan) 54 = .ok (.iload_n 3, 1) := by decide +kernel
theorem d_Tk_scan_55 : decode (kB K_Tk_scan) 55 = .ok (.if_icmp .le 7, 3) := by decide +kernel
theorem d_Tk_scan_58 : decode (kB K_Tk_scan) 58 = .ok (.iconst 1, 1) := by decide +kernel
theorem d_Tk_scan_59 : decode (kB K_Tk_scan) 59 = .ok (.goto 4, 3) := by decide +kernel
theorem d_Tk_scan_62 : decode (kB K_Tk_scan) 62 = .ok (.iconst 0, 1) := by decide +kernel
theorem d_Tk_scan_63 : decode (kB K_Tk_scan) 63 = .ok (.istore 4, 2) := by decide +kernel
theorem d_Tk_scan_65 : decode (kB K_Tk_scan) 65 = .ok (.iload 5, 2) := by decide +kernel
theorem d_Tk_scan_67 : decode (kB K_Tk_scan) 67 = .ok (.istore_n 3, 1) := by decide +kernel
theorem d_Tk_scan_68 : decode (kB K_Tk_scan) 68 = .ok (.aload_n 0, 1) := by decide +kernel
theorem d_Tk_scan_69 : decode (kB K_Tk_scan) 69 = .ok (.dup, 1) := by decide +kernel
theorem d_Tk_scan_70 : decode (kB K_Tk_scan) 70 = .ok (.getfield 28, 3) := by decide +kernel
theorem d_Tk_scan_73 : decode (kB K_Tk_scan) 73 = .ok (.iconst 1, 1) := by decide +kernel
theorem d_Tk_scan_74 : decode (kB K_Tk_scan) 74 = .ok (.iadd, 1) := by decide +kernel
theorem d_Tk_scan_75 : decode (kB K_Tk_scan) 75 = .ok (.putfield 28, 3) := by decide +kernel
theorem d_Tk_scan_78 : decode (kB K_Tk_scan) 78 = .ok (.goto (-58), 3) := by decide +kernel
theorem d_Tk_scan_81 : decode (kB K_Tk_scan) 81 = .ok (.return_, 1) := by decide +kernel
def K_Tk_kindAt : KM := (⟨"ParishBoards$Tokens", "kindAt", "(I)LParishBoards$Kind;"⟩, prog_12_method_3_code, 2, (some (.object "ParishBoards$Kind")), "ParishBoards$Tokens", ([], []))
theorem d_Tk_kindAt_0 : decode (kB K_Tk_kindAt) 0 = .ok (.iload_n 1, 1) := by decide +kernel
theorem d_Tk_kindAt_1 : decode (kB K_Tk_kindAt) 1 = .ok (.ifCond .lt 20, 3) := by decide +kernel
theorem d_Tk_kindAt_4 : decode (kB K_Tk_kindAt) 4 = .ok (.iload_n 1, 1) := by decide +kernel
theorem d_Tk_kindAt_5 : decode (kB K_Tk_kindAt) 5 = .ok (.aload_n 0, 1) := by decide +kernel
theorem d_Tk_kindAt_6 : decode (kB K_Tk_kindAt) 6 = .ok (.getfield 28, 3) := by decide +kernel
theorem d_Tk_kindAt_9 : decode (kB K_Tk_kindAt) 9 = .ok (.if_icmp .ge 12, 3) := by decide +kernel
theorem d_Tk_kindAt_12 : decode (kB K_Tk_kindAt) 12 = .ok (.aload_n 0, 1) := by decide +kernel
theorem d_Tk_kindAt_13 : decode (kB K_Tk_kindAt) 13 = .ok (.getfield 11, 3) := by decide +kernel
theorem d_Tk_kindAt_16 : decode (kB K_Tk_kindAt) 16 = .ok (.iload_n 1, 1) := by decide +kernel
theorem d_Tk_kindAt_17 : decode (kB K_Tk_kindAt) 17 = .ok (.aaload, 1) := by decide +kernel
theorem d_Tk_kindAt_18 : decode (kB K_Tk_kindAt) 18 = .ok (.goto 6, 3) := by decide +kernel
theorem d_Tk_kindAt_21 : decode (kB K_Tk_kindAt) 21 = .ok (.getstatic 47, 3) := by decide +kernel
theorem d_Tk_kindAt_24 : decode (kB K_Tk_kindAt) 24 = .ok (.areturn, 1) := by decide +kernel
def K_Tk_startAt : KM := (⟨"ParishBoards$Tokens", "startAt", "(I)I"⟩, prog_12_method_4_code, 2, (some (.int)), "ParishBoards$Tokens", ([], []))
theorem d_Tk_startAt_0 : decode (kB K_Tk_startAt) 0 = .ok (.iload_n 1, 1) := by decide +kernel
theorem d_Tk_startAt_1 : decode (kB K_Tk_startAt) 1 = .ok (.ifCond .lt 20, 3) := by decide +kernel
theorem d_Tk_startAt_4 : decode (kB K_Tk_startAt) 4 = .ok (.iload_n 1, 1) := by decide +kernel
theorem d_Tk_startAt_5 : decode (kB K_Tk_startAt) 5 = .ok (.aload_n 0, 1) := by decide +kernel
theorem d_Tk_startAt_6 : decode (kB K_Tk_startAt) 6 = .ok (.getfield 28, 3) := by decide +kernel
theorem d_Tk_startAt_9 : decode (kB K_Tk_startAt) 9 = .ok (.if_icmp .ge 12, 3) := by decide +kernel
theorem d_Tk_startAt_12 : decode (kB K_Tk_startAt) 12 = .ok (.aload_n 0, 1) := by decide +kernel
theorem d_Tk_startAt_13 : decode (kB K_Tk_startAt) 13 = .ok (.getfield 17, 3) := by decide +kernel
theorem d_Tk_startAt_16 : decode (kB K_Tk_startAt) 16 = .ok (.iload_n 1, 1) := by decide +kernel
theorem d_Tk_startAt_17 : decode (kB K_Tk_startAt) 17 = .ok (.iaload, 1) := by decide +kernel
theorem d_Tk_startAt_18 : decode (kB K_Tk_startAt) 18 = .ok (.goto 7, 3) := by decide +kernel
theorem d_Tk_startAt_21 : decode (kB K_Tk_startAt) 21 = .ok (.aload_n 0, 1) := by decide +kernel
theorem d_Tk_startAt_22 : decode (kB K_Tk_startAt) 22 = .ok (.getfield 36, 3) := by decide +kernel
theorem d_Tk_startAt_25 : decode (kB K_Tk_startAt) 25 = .ok (.ireturn, 1) := by decide +kernel
def K_Tk_worthAt : KM := (⟨"ParishBoards$Tokens", "worthAt", "(I)J"⟩, prog_12_method_5_code, 2, (some (.long)), "ParishBoards$Tokens", ([], []))
theorem d_Tk_worthAt_0 : decode (kB K_Tk_worthAt) 0 = .ok (.iload_n 1, 1) := by decide +kernel
theorem d_Tk_worthAt_1 : decode (kB K_Tk_worthAt) 1 = .ok (.ifCond .lt 20, 3) := by decide +kernel
theorem d_Tk_worthAt_4 : decode (kB K_Tk_worthAt) 4 = .ok (.iload_n 1, 1) := by decide +kernel
theorem d_Tk_worthAt_5 : decode (kB K_Tk_worthAt) 5 = .ok (.aload_n 0, 1) := by decide +kernel
theorem d_Tk_worthAt_6 : decode (kB K_Tk_worthAt) 6 = .ok (.getfield 28, 3) := by decide +kernel
theorem d_Tk_worthAt_9 : decode (kB K_Tk_worthAt) 9 = .ok (.if_icmp .ge 12, 3) := by decide +kernel
theorem d_Tk_worthAt_12 : decode (kB K_Tk_worthAt) 12 = .ok (.aload_n 0, 1) := by decide +kernel
theorem d_Tk_worthAt_13 : decode (kB K_Tk_worthAt) 13 = .ok (.getfield 21, 3) := by decide +kernel
theorem d_Tk_worthAt_16 : decode (kB K_Tk_worthAt) 16 = .ok (.iload_n 1, 1) := by decide +kernel
theorem d_Tk_worthAt_17 : decode (kB K_Tk_worthAt) 17 = .ok (.laload, 1) := by decide +kernel
theorem d_Tk_worthAt_18 : decode (kB K_Tk_worthAt) 18 = .ok (.goto 4, 3) := by decide +kernel
theorem d_Tk_worthAt_21 : decode (kB K_Tk_worthAt) 21 = .ok (.lconst 0, 1) := by decide +kernel
theorem d_Tk_worthAt_22 : decode (kB K_Tk_worthAt) 22 = .ok (.lreturn, 1) := by decide +kernel
def K_Tk_meaningAt : KM := (⟨"ParishBoards$Tokens", "meaningAt", "(I)I"⟩, prog_12_method_6_code, 2, (some (.int)), "ParishBoards$Tokens", ([], []))
theorem d_Tk_meaningAt_0 : decode (kB K_Tk_meaningAt) 0 = .ok (.iload_n 1, 1) := by decide +kernel
theorem d_Tk_meaningAt_1 : decode (kB K_Tk_meaningAt) 1 = .ok (.ifCond .lt 20, 3) := by decide +kernel
theorem d_Tk_meaningAt_4 : decode (kB K_Tk_meaningAt) 4 = .ok (.iload_n 1, 1) := by decide +kernel
theorem d_Tk_meaningAt_5 : decode (kB K_Tk_meaningAt) 5 = .ok (.aload_n 0, 1) := by decide +kernel
theorem d_Tk_meaningAt_6 : decode (kB K_Tk_meaningAt) 6 = .ok (.getfield 28, 3) := by decide +kernel
theorem d_Tk_meaningAt_9 : decode (kB K_Tk_meaningAt) 9 = .ok (.if_icmp .ge 12, 3) := by decide +kernel
theorem d_Tk_meaningAt_12 : decode (kB K_Tk_meaningAt) 12 = .ok (.aload_n 0, 1) := by decide +kernel
theorem d_Tk_meaningAt_13 : decode (kB K_Tk_meaningAt) 13 = .ok (.getfield 25, 3) := by decide +kernel
theorem d_Tk_meaningAt_16 : decode (kB K_Tk_meaningAt) 16 = .ok (.iload_n 1, 1) := by decide +kernel
theorem d_Tk_meaningAt_17 : decode (kB K_Tk_meaningAt) 17 = .ok (.iaload, 1) := by decide +kernel
theorem d_Tk_meaningAt_18 : decode (kB K_Tk_meaningAt) 18 = .ok (.goto 4, 3) := by decide +kernel
theorem d_Tk_meaningAt_21 : decode (kB K_Tk_meaningAt) 21 = .ok (.iconst 0, 1) := by decide +kernel
theorem d_Tk_meaningAt_22 : decode (kB K_Tk_meaningAt) 22 = .ok (.ireturn, 1) := by decide +kernel
def K_Tk_setMeaning : KM := (⟨"ParishBoards$Tokens", "setMeaning", "(II)V"⟩, prog_12_method_7_code, 3, none, "ParishBoards$Tokens", ([], []))
theorem d_Tk_setMeaning_0 : decode (kB K_Tk_setMeaning) 0 = .ok (.iload_n 1, 1) := by decide +kernel
theorem d_Tk_setMeaning_1 : decode (kB K_Tk_setMeaning) 1 = .ok (.ifCond .lt 18, 3) := by decide +kernel
theorem d_Tk_setMeaning_4 : decode (kB K_Tk_setMeaning) 4 = .ok (.iload_n 1, 1) := by decide +kernel
theorem d_Tk_setMeaning_5 : decode (kB K_Tk_setMeaning) 5 = .ok (.aload_n 0, 1) := by decide +kernel
theorem d_Tk_setMeaning_6 : decode (kB K_Tk_setMeaning) 6 = .ok (.getfield 28, 3) := by decide +kernel
theorem d_Tk_setMeaning_9 : decode (kB K_Tk_setMeaning) 9 = .ok (.if_icmp .ge 10, 3) := by decide +kernel
theorem d_Tk_setMeaning_12 : decode (kB K_Tk_setMeaning) 12 = .ok (.aload_n 0, 1) := by decide +kernel
theorem d_Tk_setMeaning_13 : decode (kB K_Tk_setMeaning) 13 = .ok (.getfield 25, 3) := by decide +kernel
theorem d_Tk_setMeaning_16 : decode (kB K_Tk_setMeaning) 16 = .ok (.iload_n 1, 1) := by decide +kernel
theorem d_Tk_setMeaning_17 : decode (kB K_Tk_setMeaning) 17 = .ok (.iload_n 2, 1) := by decide +kernel
theorem d_Tk_setMeaning_18 : decode (kB K_Tk_setMeaning) 18 = .ok (.iastore, 1) := by decide +kernel
theorem d_Tk_setMeaning_19 : decode (kB K_Tk_setMeaning) 19 = .ok (.return_, 1) := by decide +kernel
def K_Tk_behindToken : KM := (⟨"ParishBoards$Tokens", "behindToken", "(II)I"⟩, prog_12_method_8_code, 7, (some (.int)), "ParishBoards$Tokens", ([], []))
theorem d_Tk_behindToken_0 : decode (kB K_Tk_behindToken) 0 = .ok (.iload_n 1, 1) := by decide +kernel
theorem d_Tk_behindToken_1 : decode (kB K_Tk_behindToken) 1 = .ok (.istore_n 3, 1) := by decide +kernel
theorem d_Tk_behindToken_2 : decode (kB K_Tk_behindToken) 2 = .ok (.lconst 0, 1) := by decide +kernel
theorem d_Tk_behindToken_3 : decode (kB K_Tk_behindToken) 3 = .ok (.lstore 4, 2) := by decide +kernel
theorem d_Tk_behindToken_5 : decode (kB K_Tk_behindToken) 5 = .ok (.getstatic 47, 3) := by decide +kernel
theorem d_Tk_behindToken_8 : decode (kB K_Tk_behindToken) 8 = .ok (.astore 6, 2) := by decide +kernel
theorem d_Tk_behindToken_10 : decode (kB K_Tk_behindToken) 10 = .ok (.iload_n 1, 1) := by decide +kernel
theorem d_Tk_behindToken_11 : decode (kB K_Tk_behindToken) 11 = .ok (.aload_n 0, 1) := by decide +kernel
theorem d_Tk_behindToken_12 : decode (kB K_Tk_behindToken) 12 = .ok (.getfield 36, 3) := by decide +kernel
theorem d_Tk_behindToken_15 : decode (kB K_Tk_behindToken) 15 = .ok (.if_icmp .lt 11, 3) := by decide +kernel
theorem d_Tk_behindToken_18 : decode (kB K_Tk_behindToken) 18 = .ok (.getstatic 51, 3) := by decide +kernel
theorem d_Tk_behindToken_21 : decode (kB K_Tk_behindToken) 21 = .ok (.astore 6, 2) := by decide +kernel
theorem d_Tk_behindToken_23 : decode (kB K_Tk_behindToken) 23 = .ok (.goto 49, 3) := by decide +kernel
theorem d_Tk_behindToken_26 : decode (kB K_Tk_behindToken) 26 = .ok (.iload_n 2, 1) := by decide +kernel
theorem d_Tk_behindToken_27 : decode (kB K_Tk_behindToken) 27 = .ok (.sipush 400, 3) := by decide +kernel
theorem d_Tk_behindToken_30 : decode (kB K_Tk_behindToken) 30 = .ok (.if_icmp .ge 42, 3) := by decide +kernel
theorem d_Tk_behindToken_33 : decode (kB K_Tk_behindToken) 33 = .ok (.aload_n 0, 1) := by decide +kernel
theorem d_Tk_behindToken_34 : decode (kB K_Tk_behindToken) 34 = .ok (.iload_n 1, 1) := by decide +kernel
theorem d_Tk_behindToken_35 : decode (kB K_Tk_behindToken) 35 = .ok (.invokevirtual 54, 3) := by decide +kernel
theorem d_Tk_behindToken_38 : decode (kB K_Tk_behindToken) 38 = .ok (.istore_n 3, 1) := by decide +kernel
theorem d_Tk_behindToken_39 : decode (kB K_Tk_behindToken) 39 = .ok (.aload_n 0, 1) := by decide +kernel
theorem d_Tk_behindToken_40 : decode (kB K_Tk_behindToken) 40 = .ok (.iload_n 1, 1) := by decide +kernel
theorem d_Tk_behindToken_41 : decode (kB K_Tk_behindToken) 41 = .ok (.iload_n 3, 1) := by decide +kernel
theorem d_Tk_behindToken_42 : decode (kB K_Tk_behindToken) 42 = .ok (.invokevirtual 57, 3) := by decide +kernel
theorem d_Tk_behindToken_45 : decode (kB K_Tk_behindToken) 45 = .ok (.astore 6, 2) := by decide +kernel
theorem d_Tk_behindToken_47 : decode (kB K_Tk_behindToken) 47 = .ok (.aload 6, 2) := by decide +kernel
theorem d_Tk_behindToken_49 : decode (kB K_Tk_behindToken) 49 = .ok (.getstatic 61, 3) := by decide +kernel
theorem d_Tk_behindToken_52 : decode (kB K_Tk_behindToken) 52 = .ok (.if_acmp .ne 12, 3) := by decide +kernel
theorem d_Tk_behindToken_55 : decode (kB K_Tk_behindToken) 55 = .ok (.aload_n 0, 1) := by decide +kernel
theorem d_Tk_behindToken_56 : decode (kB K_Tk_behindToken) 56 = .ok (.iload_n 1, 1) := by decide +kernel
theorem d_Tk_behindToken_57 : decode (kB K_Tk_behindToken) 57 = .ok (.iload_n 3, 1) := by decide +kernel
theorem d_Tk_behindToken_58 : decode (kB K_Tk_behindToken) 58 = .ok (.invokevirtual 64, 3) := by decide +kernel
theorem d_Tk_behindToken_61 : decode (kB K_Tk_behindToken) 61 = .ok (.goto 9, 3) := by decide +kernel
theorem d_Tk_behindToken_64 : decode (kB K_Tk_behindToken) 64 = .ok (.aload_n 0, 1) := by decide +kernel
theorem d_Tk_behindToken_65 : decode (kB K_Tk_behindToken) 65 = .ok (.iload_n 1, 1) := by decide +kernel
theorem d_Tk_behindToken_66 : decode (kB K_Tk_behindToken) 66 = .ok (.iload_n 3, 1) := by decide +kernel
theorem d_Tk_behindToken_67 : decode (kB K_Tk_behindToken) 67 = .ok (.invokevirtual 68, 3) := by decide +kernel
theorem d_Tk_behindToken_70 : decode (kB K_Tk_behindToken) 70 = .ok (.lstore 4, 2) := by decide +kernel
theorem d_Tk_behindToken_72 : decode (kB K_Tk_behindToken) 72 = .ok (.aload_n 0, 1) := by decide +kernel
theorem d_Tk_behindToken_73 : decode (kB K_Tk_behindToken) 73 = .ok (.getfield 11, 3) := by decide +kernel
theorem d_Tk_behindToken_76 : decode (kB K_Tk_behindToken) 76 = .ok (.iload_n 2, 1) := by decide +kernel
theorem d_Tk_behindToken_77 : decode (kB K_Tk_behindToken) 77 = .ok (.aload 6, 2) := by decide +kernel
theorem d_Tk_behindToken_79 : decode (kB K_Tk_behindToken) 79 = .ok (.aastore, 1) := by decide +kernel
theorem d_Tk_behindToken_80 : decode (kB K_Tk_behindToken) 80 = .ok (.aload_n 0, 1) := by decide +kernel
theorem d_Tk_behindToken_81 : decode (kB K_Tk_behindToken) 81 = .ok (.getfield 17, 3) := by decide +kernel
theorem d_Tk_behindToken_84 : decode (kB K_Tk_behindToken) 84 = .ok (.iload_n 2, 1) := by decide +kernel
theorem d_Tk_behindToken_85 : decode (kB K_Tk_behindToken) 85 = .ok (.iload_n 1, 1) := by decide +kernel
theorem d_Tk_behindToken_86 : decode (kB K_Tk_behindToken) 86 = .ok (.iastore, 1) := by decide +kernel
theorem d_Tk_behindToken_87 : decode (kB K_Tk_behindToken) 87 = .ok (.aload_n 0, 1) := by decide +kernel
theorem d_Tk_behindToken_88 : decode (kB K_Tk_behindToken) 88 = .ok (.getfield 21, 3) := by decide +kernel
theorem d_Tk_behindToken_91 : decode (kB K_Tk_behindToken) 91 = .ok (.iload_n 2, 1) := by decide +kernel
theorem d_Tk_behindToken_92 : decode (kB K_Tk_behindToken) 92 = .ok (.lload 4, 2) := by decide +kernel
theorem d_Tk_behindToken_94 : decode (kB K_Tk_behindToken) 94 = .ok (.lastore, 1) := by decide +kernel
theorem d_Tk_behindToken_95 : decode (kB K_Tk_behindToken) 95 = .ok (.aload_n 0, 1) := by decide +kernel
theorem d_Tk_behindToken_96 : decode (kB K_Tk_behindToken) 96 = .ok (.getfield 25, 3) := by decide +kernel
theorem d_Tk_behindToken_99 : decode (kB K_Tk_behindToken) 99 = .ok (.iload_n 2, 1) := by decide +kernel
theorem d_Tk_behindToken_100 : decode (kB K_Tk_behindToken) 100 = .ok (.iconst 0, 1) := by decide +kernel
theorem d_Tk_behindToken_101 : decode (kB K_Tk_behindToken) 101 = .ok (.iastore, 1) := by decide +kernel
theorem d_Tk_behindToken_102 : decode (kB K_Tk_behindToken) 102 = .ok (.aload 6, 2) := by decide +kernel
theorem d_Tk_behindToken_104 : decode (kB K_Tk_behindToken) 104 = .ok (.getstatic 47, 3) := by decide +kernel
theorem d_Tk_behindToken_107 : decode (kB K_Tk_behindToken) 107 = .ok (.if_acmp .ne 7, 3) := by decide +kernel
theorem d_Tk_behindToken_110 : decode (kB K_Tk_behindToken) 110 = .ok (.iload_n 1, 1) := by decide +kernel
theorem d_Tk_behindToken_111 : decode (kB K_Tk_behindToken) 111 = .ok (.goto 4, 3) := by decide +kernel
theorem d_Tk_behindToken_114 : decode (kB K_Tk_behindToken) 114 = .ok (.iload_n 3, 1) := by decide +kernel
theorem d_Tk_behindToken_115 : decode (kB K_Tk_behindToken) 115 = .ok (.ireturn, 1) := by decide +kernel
def K_Tk_behindBlanks : KM := (⟨"ParishBoards$Tokens", "behindBlanks", "(I)I"⟩, prog_12_method_9_code, 3, (some (.int)), "ParishBoards$Tokens", ([], []))
theorem d_Tk_behindBlanks_0 : decode (kB K_Tk_behindBlanks) 0 = .ok (.iload_n 1, 1) := by decide +kernel
theorem d_Tk_behindBlanks_1 : decode (kB K_Tk_behindBlanks) 1 = .ok (.istore_n 2, 1) := by decide +kernel
theorem d_Tk_behindBlanks_2 : decode (kB K_Tk_behindBlanks) 2 = .ok (.iload_n 2, 1) := by decide +kernel
theorem d_Tk_behindBlanks_3 : decode (kB K_Tk_behindBlanks) 3 = .ok (.aload_n 0, 1) := by decide +kernel
theorem d_Tk_behindBlanks_4 : decode (kB K_Tk_behindBlanks) 4 = .ok (.getfield 36, 3) := by decide +kernel
theorem d_Tk_behindBlanks_7 : decode (kB K_Tk_behindBlanks) 7 = .ok (.if_icmp .ge 29, 3) := by decide +kernel
theorem d_Tk_behindBlanks_10 : decode (kB K_Tk_behindBlanks) 10 = .ok (.aload_n 0, 1) := by decide +kernel
theorem d_Tk_behindBlanks_11 : decode (kB K_Tk_behindBlanks) 11 = .ok (.iload_n 2, 1) := by decide +kernel
theorem d_Tk_behindBlanks_12 : decode (kB K_Tk_behindBlanks) 12 = .ok (.invokevirtual 71, 3) := by decide +kernel
theorem d_Tk_behindBlanks_15 : decode (kB K_Tk_behindBlanks) 15 = .ok (.bipush 32, 2) := by decide +kernel
theorem d_Tk_behindBlanks_17 : decode (kB K_Tk_behindBlanks) 17 = .ok (.if_icmp .eq 13, 3) := by decide +kernel
theorem d_Tk_behindBlanks_20 : decode (kB K_Tk_behindBlanks) 20 = .ok (.aload_n 0, 1) := by decide +kernel
theorem d_Tk_behindBlanks_21 : decode (kB K_Tk_behindBlanks) 21 = .ok (.iload_n 2, 1) := by decide +kernel
theorem d_Tk_behindBlanks_22 : decode (kB K_Tk_behindBlanks) 22 = .ok (.invokevirtual 71, 3) := by decide +kernel
theorem d_Tk_behindBlanks_25 : decode (kB K_Tk_behindBlanks) 25 = .ok (.bipush 10, 2) := by decide +kernel
theorem d_Tk_behindBlanks_27 : decode (kB K_Tk_behindBlanks) 27 = .ok (.if_icmp .ne 9, 3) := by decide +kernel
theorem d_Tk_behindBlanks_30 : decode (kB K_Tk_behindBlanks) 30 = .ok (.iinc 2 1, 3) := by decide +kernel
theorem d_Tk_behindBlanks_33 : decode (kB K_Tk_behindBlanks) 33 = .ok (.goto (-31), 3) := by decide +kernel
theorem d_Tk_behindBlanks_36 : decode (kB K_Tk_behindBlanks) 36 = .ok (.iload_n 2, 1) := by decide +kernel
theorem d_Tk_behindBlanks_37 : decode (kB K_Tk_behindBlanks) 37 = .ok (.ireturn, 1) := by decide +kernel
def K_Tk_behindRun : KM := (⟨"ParishBoards$Tokens", "behindRun", "(I)I"⟩, prog_12_method_10_code, 5, (some (.int)), "ParishBoards$Tokens", ([], []))
theorem d_Tk_behindRun_0 : decode (kB K_Tk_behindRun) 0 = .ok (.aload_n 0, 1) := by decide +kernel
theorem d_Tk_behindRun_1 : decode (kB K_Tk_behindRun) 1 = .ok (.iload_n 1, 1) := by decide +kernel
theorem d_Tk_behindRun_2 : decode (kB K_Tk_behindRun) 2 = .ok (.invokevirtual 71, 3) := by decide +kernel
theorem d_Tk_behindRun_5 : decode (kB K_Tk_behindRun) 5 = .ok (.istore_n 2, 1) := by decide +kernel
theorem d_Tk_behindRun_6 : decode (kB K_Tk_behindRun) 6 = .ok (.iload_n 2, 1) := by decide +kernel
theorem d_Tk_behindRun_7 : decode (kB K_Tk_behindRun) 7 = .ok (.invokestatic 74, 3) := by decide +kernel
theorem d_Tk_behindRun_10 : decode (kB K_Tk_behindRun) 10 = .ok (.ifCond .ne 24, 3) := by decide +kernel
theorem d_Tk_behindRun_13 : decode (kB K_Tk_behindRun) 13 = .ok (.iload_n 2, 1) := by decide +kernel
theorem d_Tk_behindRun_14 : decode (kB K_Tk_behindRun) 14 = .ok (.invokestatic 78, 3) := by decide +kernel
theorem d_Tk_behindRun_17 : decode (kB K_Tk_behindRun) 17 = .ok (.ifCond .ne 17, 3) := by decide +kernel
theorem d_Tk_behindRun_20 : decode (kB K_Tk_behindRun) 20 = .ok (.iload_n 1, 1) := by decide +kernel
theorem d_Tk_behindRun_21 : decode (kB K_Tk_behindRun) 21 = .ok (.aload_n 0, 1) := by decide +kernel
theorem d_Tk_behindRun_22 : decode (kB K_Tk_behindRun) 22 = .ok (.iload_n 1, 1) := by decide +kernel
theorem d_Tk_behindRun_23 : decode (kB K_Tk_behindRun) 23 = .ok (.invokevirtual 81, 3) := by decide +kernel
theorem d_Tk_behindRun_26 : decode (kB K_Tk_behindRun) 26 = .ok (.getfield 85, 3) := by decide +kernel
theorem d_Tk_behindRun_29 : decode (kB K_Tk_behindRun) 29 = .ok (.invokevirtual 89, 3) := by decide +kernel
theorem d_Tk_behindRun_32 : decode (kB K_Tk_behindRun) 32 = .ok (.iadd, 1) := by decide +kernel
theorem d_Tk_behindRun_33 : decode (kB K_Tk_behindRun) 33 = .ok (.ireturn, 1) := by decide +kernel
theorem d_Tk_behindRun_34 : decode (kB K_Tk_behindRun) 34 = .ok (.iload_n 2, 1) := by decide +kernel
theorem d_Tk_behindRun_35 : decode (kB K_Tk_behindRun) 35 = .ok (.invokestatic 74, 3) := by decide +kernel
theorem d_Tk_behindRun_38 : decode (kB K_Tk_behindRun) 38 = .ok (.istore_n 3, 1) := by decide +kernel
theorem d_Tk_behindRun_39 : decode (kB K_Tk_behindRun) 39 = .ok (.iload_n 1, 1) := by decide +kernel
theorem d_Tk_behindRun_40 : decode (kB K_Tk_behindRun) 40 = .ok (.istore 4, 2) := by decide +kernel
theorem d_Tk_behindRun_42 : decode (kB K_Tk_behindRun) 42 = .ok (.iload 4, 2) := by decide +kernel
theorem d_Tk_behindRun_44 : decode (kB K_Tk_behindRun) 44 = .ok (.aload_n 0, 1) := by decide +kernel
theorem d_Tk_behindRun_45 : decode (kB K_Tk_behindRun) 45 = .ok (.getfield 36, 3) := by decide +kernel
theorem d_Tk_behindRun_48 : decode (kB K_Tk_behindRun) 48 = .ok (.if_icmp .ge 37, 3) := by decide +kernel
theorem d_Tk_behindRun_51 : decode (kB K_Tk_behindRun) 51 = .ok (.aload_n 0, 1) := by decide +kernel
theorem d_Tk_behindRun_52 : decode (kB K_Tk_behindRun) 52 = .ok (.iload 4, 2) := by decide +kernel
theorem d_Tk_behindRun_54 : decode (kB K_Tk_behindRun) 54 = .ok (.invokevirtual 71, 3) := by decide +kernel
theorem d_Tk_behindRun_57 : decode (kB K_Tk_behindRun) 57 = .ok (.invokestatic 78, 3) := by decide +kernel
theorem d_Tk_behindRun_60 : decode (kB K_Tk_behindRun) 60 = .ok (.ifCond .ne 19, 3) := by decide +kernel
theorem d_Tk_behindRun_63 : decode (kB K_Tk_behindRun) 63 = .ok (.iload_n 3, 1) := by decide +kernel
theorem d_Tk_behindRun_64 : decode (kB K_Tk_behindRun) 64 = .ok (.ifCond .eq 21, 3) := by decide +kernel
theorem d_Tk_behindRun_67 : decode (kB K_Tk_behindRun) 67 = .ok (.aload_n 0, 1) := by decide +kernel
theorem d_Tk_behindRun_68 : decode (kB K_Tk_behindRun) 68 = .ok (.iload 4, 2) := by decide +kernel
theorem d_Tk_behindRun_70 : decode (kB K_Tk_behindRun) 70 = .ok (.invokevirtual 71, 3) := by decide +kernel
theorem d_Tk_behindRun_73 : decode (kB K_Tk_behindRun) 73 = .ok (.invokestatic 74, 3) := by decide +kernel
theorem d_Tk_behindRun_76 : decode (kB K_Tk_behindRun) 76 = .ok (.ifCond .eq 9, 3) := by decide +kernel
theorem d_Tk_behindRun_79 : decode (kB K_Tk_behindRun) 79 = .ok (.iinc 4 1, 3) := by decide +kernel
theorem d_Tk_behindRun_82 : decode (kB K_Tk_behindRun) 82 = .ok (.goto (-40), 3) := by decide +kernel
theorem d_Tk_behindRun_85 : decode (kB K_Tk_behindRun) 85 = .ok (.iload 4, 2) := by decide +kernel
theorem d_Tk_behindRun_87 : decode (kB K_Tk_behindRun) 87 = .ok (.ireturn, 1) := by decide +kernel
def K_Tk_kindOf : KM := (⟨"ParishBoards$Tokens", "kindOf", "(II)LParishBoards$Kind;"⟩, prog_12_method_11_code, 8, (some (.object "ParishBoards$Kind")), "ParishBoards$Tokens", ([], []))
theorem d_Tk_kindOf_0 : decode (kB K_Tk_kindOf) 0 = .ok (.aload_n 0, 1) := by decide +kernel
theorem d_Tk_kindOf_1 : decode (kB K_Tk_kindOf) 1 = .ok (.iload_n 1, 1) := by decide +kernel
theorem d_Tk_kindOf_2 : decode (kB K_Tk_kindOf) 2 = .ok (.invokevirtual 71, 3) := by decide +kernel
theorem d_Tk_kindOf_5 : decode (kB K_Tk_kindOf) 5 = .ok (.istore_n 3, 1) := by decide +kernel
theorem d_Tk_kindOf_6 : decode (kB K_Tk_kindOf) 6 = .ok (.iload_n 3, 1) := by decide +kernel
theorem d_Tk_kindOf_7 : decode (kB K_Tk_kindOf) 7 = .ok (.invokestatic 78, 3) := by decide +kernel
theorem d_Tk_kindOf_10 : decode (kB K_Tk_kindOf) 10 = .ok (.ifCond .eq 21, 3) := by decide +kernel
theorem d_Tk_kindOf_13 : decode (kB K_Tk_kindOf) 13 = .ok (.iload_n 2, 1) := by decide +kernel
theorem d_Tk_kindOf_14 : decode (kB K_Tk_kindOf) 14 = .ok (.iload_n 1, 1) := by decide +kernel
theorem d_Tk_kindOf_15 : decode (kB K_Tk_kindOf) 15 = .ok (.isub, 1) := by decide +kernel
theorem d_Tk_kindOf_16 : decode (kB K_Tk_kindOf) 16 = .ok (.bipush 6, 2) := by decide +kernel
theorem d_Tk_kindOf_18 : decode (kB K_Tk_kindOf) 18 = .ok (.if_icmp .le 9, 3) := by decide +kernel
theorem d_Tk_kindOf_21 : decode (kB K_Tk_kindOf) 21 = .ok (.getstatic 47, 3) := by decide +kernel
theorem d_Tk_kindOf_24 : decode (kB K_Tk_kindOf) 24 = .ok (.goto 6, 3) := by decide +kernel
theorem d_Tk_kindOf_27 : decode (kB K_Tk_kindOf) 27 = .ok (.getstatic 61, 3) := by decide +kernel
theorem d_Tk_kindOf_30 : decode (kB K_Tk_kindOf) 30 = .ok (.areturn, 1) := by decide +kernel
theorem d_Tk_kindOf_31 : decode (kB K_Tk_kindOf) 31 = .ok (.iload_n 3, 1) := by decide +kernel
theorem d_Tk_kindOf_32 : decode (kB K_Tk_kindOf) 32 = .ok (.invokestatic 74, 3) := by decide +kernel
theorem d_Tk_kindOf_35 : decode (kB K_Tk_kindOf) 35 = .ok (.ifCond .ne 9, 3) := by decide +kernel
theorem d_Tk_kindOf_38 : decode (kB K_Tk_kindOf) 38 = .ok (.aload_n 0, 1) := by decide +kernel
theorem d_Tk_kindOf_39 : decode (kB K_Tk_kindOf) 39 = .ok (.iload_n 1, 1) := by decide +kernel
theorem d_Tk_kindOf_40 : decode (kB K_Tk_kindOf) 40 = .ok (.invokevirtual 81, 3) := by decide +kernel
theorem d_Tk_kindOf_43 : decode (kB K_Tk_kindOf) 43 = .ok (.areturn, 1) := by decide +kernel
theorem d_Tk_kindOf_44 : decode (kB K_Tk_kindOf) 44 = .ok (.iload_n 2, 1) := by decide +kernel
theorem d_Tk_kindOf_45 : decode (kB K_Tk_kindOf) 45 = .ok (.iload_n 1, 1) := by decide +kernel
theorem d_Tk_kindOf_46 : decode (kB K_Tk_kindOf) 46 = .ok (.isub, 1) := by decide +kernel
theorem d_Tk_kindOf_47 : decode (kB K_Tk_kindOf) 47 = .ok (.bipush 10, 2) := by decide +kernel
theorem d_Tk_kindOf_49 : decode (kB K_Tk_kindOf) 49 = .ok (.if_icmp .le 7, 3) := by decide +kernel
theorem d_Tk_kindOf_52 : decode (kB K_Tk_kindOf) 52 = .ok (.getstatic 47, 3) := by decide +kernel
theorem d_Tk_kindOf_55 : decode (kB K_Tk_kindOf) 55 = .ok (.areturn, 1) := by decide +kernel
theorem d_Tk_kindOf_56 : decode (kB K_Tk_kindOf) 56 = .ok (.getstatic 94, 3) := by decide +kernel
theorem d_Tk_kindOf_59 : decode (kB K_Tk_kindOf) 59 = .ok (.astore 4, 2) := by decide +kernel
theorem d_Tk_kindOf_61 : decode (kB K_Tk_kindOf) 61 = .ok (.aload 4, 2) := by decide +kernel
theorem d_Tk_kindOf_63 : decode (kB K_Tk_kindOf) 63 = .ok (.arraylength, 1) := by decide +kernel
theorem d_Tk_kindOf_64 : decode (kB K_Tk_kindOf) 64 = .ok (.istore 5, 2) := by decide +kernel
theorem d_Tk_kindOf_66 : decode (kB K_Tk_kindOf) 66 = .ok (.iconst 0, 1) := by decide +kernel
theorem d_Tk_kindOf_67 : decode (kB K_Tk_kindOf) 67 = .ok (.istore 6, 2) := by decide +kernel
theorem d_Tk_kindOf_69 : decode (kB K_Tk_kindOf) 69 = .ok (.iload 6, 2) := by decide +kernel
theorem d_Tk_kindOf_71 : decode (kB K_Tk_kindOf) 71 = .ok (.iload 5, 2) := by decide +kernel
theorem d_Tk_kindOf_73 : decode (kB K_Tk_kindOf) 73 = .ok (.if_icmp .ge 46, 3) := by decide +kernel
theorem d_Tk_kindOf_76 : decode (kB K_Tk_kindOf) 76 = .ok (.aload 4, 2) := by decide +kernel
theorem d_Tk_kindOf_78 : decode (kB K_Tk_kindOf) 78 = .ok (.iload 6, 2) := by decide +kernel
theorem d_Tk_kindOf_80 : decode (kB K_Tk_kindOf) 80 = .ok (.aaload, 1) := by decide +kernel
theorem d_Tk_kindOf_81 : decode (kB K_Tk_kindOf) 81 = .ok (.astore 7, 2) := by decide +kernel
theorem d_Tk_kindOf_83 : decode (kB K_Tk_kindOf) 83 = .ok (.aload 7, 2) := by decide +kernel
theorem d_Tk_kindOf_85 : decode (kB K_Tk_kindOf) 85 = .ok (.getfield 85, 3) := by decide +kernel
theorem d_Tk_kindOf_88 : decode (kB K_Tk_kindOf) 88 = .ok (.invokevirtual 89, 3) := by decide +kernel
theorem d_Tk_kindOf_91 : decode (kB K_Tk_kindOf) 91 = .ok (.iload_n 2, 1) := by decide +kernel
theorem d_Tk_kindOf_92 : decode (kB K_Tk_kindOf) 92 = .ok (.iload_n 1, 1) := by decide +kernel
theorem d_Tk_kindOf_93 : decode (kB K_Tk_kindOf) 93 = .ok (.isub, 1) := by decide +kernel
theorem d_Tk_kindOf_94 : decode (kB K_Tk_kindOf) 94 = .ok (.if_icmp .ne 19, 3) := by decide +kernel
theorem d_Tk_kindOf_97 : decode (kB K_Tk_kindOf) 97 = .ok (.aload_n 0, 1) := by decide +kernel
theorem d_Tk_kindOf_98 : decode (kB K_Tk_kindOf) 98 = .ok (.iload_n 1, 1) := by decide +kernel
theorem d_Tk_kindOf_99 : decode (kB K_Tk_kindOf) 99 = .ok (.aload 7, 2) := by decide +kernel
theorem d_Tk_kindOf_101 : decode (kB K_Tk_kindOf) 101 = .ok (.getfield 85, 3) := by decide +kernel
theorem d_Tk_kindOf_104 : decode (kB K_Tk_kindOf) 104 = .ok (.invokevirtual 97, 3) := by decide +kernel
theorem d_Tk_kindOf_107 : decode (kB K_Tk_kindOf) 107 = .ok (.ifCond .eq 6, 3) := by decide +kernel
theorem d_Tk_kindOf_110 : decode (kB K_Tk_kindOf) 110 = .ok (.aload 7, 2) := by decide +kernel
theorem d_Tk_kindOf_112 : decode (kB K_Tk_kindOf) 112 = .ok (.areturn, 1) := by decide +kernel
theorem d_Tk_kindOf_113 : decode (kB K_Tk_kindOf) 113 = .ok (.iinc 6 1, 3) := by decide +kernel
theorem d_Tk_kindOf_116 : decode (kB K_Tk_kindOf) 116 = .ok (.goto (-47), 3) := by decide +kernel
theorem d_Tk_kindOf_119 : decode (kB K_Tk_kindOf) 119 = .ok (.getstatic 101, 3) := by decide +kernel
theorem d_Tk_kindOf_122 : decode (kB K_Tk_kindOf) 122 = .ok (.areturn, 1) := by decide +kernel
def K_Tk_symbolAt : KM := (⟨"ParishBoards$Tokens", "symbolAt", "(I)LParishBoards$Kind;"⟩, prog_12_method_12_code, 7, (some (.object "ParishBoards$Kind")), "ParishBoards$Tokens", ([], []))
theorem d_Tk_symbolAt_0 : decode (kB K_Tk_symbolAt) 0 = .ok (.getstatic 47, 3) := by decide +kernel
theorem d_Tk_symbolAt_3 : decode (kB K_Tk_symbolAt) 3 = .ok (.astore_n 2, 1) := by decide +kernel
theorem d_Tk_symbolAt_4 : decode (kB K_Tk_symbolAt) 4 = .ok (.getstatic 94, 3) := by decide +kernel
theorem d_Tk_symbolAt_7 : decode (kB K_Tk_symbolAt) 7 = .ok (.astore_n 3, 1) := by decide +kernel
theorem d_Tk_symbolAt_8 : decode (kB K_Tk_symbolAt) 8 = .ok (.aload_n 3, 1) := by decide +kernel
theorem d_Tk_symbolAt_9 : decode (kB K_Tk_symbolAt) 9 = .ok (.arraylength, 1) := by decide +kernel
theorem d_Tk_symbolAt_10 : decode (kB K_Tk_symbolAt) 10 = .ok (.istore 4, 2) := by decide +kernel
theorem d_Tk_symbolAt_12 : decode (kB K_Tk_symbolAt) 12 = .ok (.iconst 0, 1) := by decide +kernel
theorem d_Tk_symbolAt_13 : decode (kB K_Tk_symbolAt) 13 = .ok (.istore 5, 2) := by decide +kernel
theorem d_Tk_symbolAt_15 : decode (kB K_Tk_symbolAt) 15 = .ok (.iload 5, 2) := by decide +kernel
theorem d_Tk_symbolAt_17 : decode (kB K_Tk_symbolAt) 17 = .ok (.iload 4, 2) := by decide +kernel
theorem d_Tk_symbolAt_19 : decode (kB K_Tk_symbolAt) 19 = .ok (.if_icmp .ge 49, 3) := by decide +kernel
theorem d_Tk_symbolAt_22 : decode (kB K_Tk_symbolAt) 22 = .ok (.aload_n 3, 1) := by decide +kernel
theorem d_Tk_symbolAt_23 : decode (kB K_Tk_symbolAt) 23 = .ok (.iload 5, 2) := by decide +kernel
theorem d_Tk_symbolAt_25 : decode (kB K_Tk_symbolAt) 25 = .ok (.aaload, 1) := by decide +kernel
theorem d_Tk_symbolAt_26 : decode (kB K_Tk_symbolAt) 26 = .ok (.astore 6, 2) := by decide +kernel
theorem d_Tk_symbolAt_28 : decode (kB K_Tk_symbolAt) 28 = .ok (.aload 6, 2) := by decide +kernel
theorem d_Tk_symbolAt_30 : decode (kB K_Tk_symbolAt) 30 = .ok (.getfield 85, 3) := by decide +kernel
theorem d_Tk_symbolAt_33 : decode (kB K_Tk_symbolAt) 33 = .ok (.invokevirtual 89, 3) := by decide +kernel
theorem d_Tk_symbolAt_36 : decode (kB K_Tk_symbolAt) 36 = .ok (.aload_n 2, 1) := by decide +kernel
theorem d_Tk_symbolAt_37 : decode (kB K_Tk_symbolAt) 37 = .ok (.getfield 85, 3) := by decide +kernel
theorem d_Tk_symbolAt_40 : decode (kB K_Tk_symbolAt) 40 = .ok (.invokevirtual 89, 3) := by decide +kernel
theorem d_Tk_symbolAt_43 : decode (kB K_Tk_symbolAt) 43 = .ok (.if_icmp .le 19, 3) := by decide +kernel
theorem d_Tk_symbolAt_46 : decode (kB K_Tk_symbolAt) 46 = .ok (.aload_n 0, 1) := by decide +kernel
theorem d_Tk_symbolAt_47 : decode (kB K_Tk_symbolAt) 47 = .ok (.iload_n 1, 1) := by decide +kernel
theorem d_Tk_symbolAt_48 : decode (kB K_Tk_symbolAt) 48 = .ok (.aload 6, 2) := by decide +kernel
theorem d_Tk_symbolAt_50 : decode (kB K_Tk_symbolAt) 50 = .ok (.getfield 85, 3) := by decide +kernel
theorem d_Tk_symbolAt_53 : decode (kB K_Tk_symbolAt) 53 = .ok (.invokevirtual 97, 3) := by decide +kernel
theorem d_Tk_symbolAt_56 : decode (kB K_Tk_symbolAt) 56 = .ok (.ifCond .eq 6, 3) := by decide +kernel
theorem d_Tk_symbolAt_59 : decode (kB K_Tk_symbolAt) 59 = .ok (.aload 6, 2) := by decide +kernel
theorem d_Tk_symbolAt_61 : decode (kB K_Tk_symbolAt) 61 = .ok (.astore_n 2, 1) := by decide +kernel
theorem d_Tk_symbolAt_62 : decode (kB K_Tk_symbolAt) 62 = .ok (.iinc 5 1, 3) := by decide +kernel
theorem d_Tk_symbolAt_65 : decode (kB K_Tk_symbolAt) 65 = .ok (.goto (-50), 3) := by decide +kernel
theorem d_Tk_symbolAt_68 : decode (kB K_Tk_symbolAt) 68 = .ok (.aload_n 2, 1) := by decide +kernel
theorem d_Tk_symbolAt_69 : decode (kB K_Tk_symbolAt) 69 = .ok (.areturn, 1) := by decide +kernel
def K_Tk_standsAt : KM := (⟨"ParishBoards$Tokens", "standsAt", "(ILjava/lang/String;)Z"⟩, prog_12_method_13_code, 4, (some (.boolean)), "ParishBoards$Tokens", ([], []))
theorem d_Tk_standsAt_0 : decode (kB K_Tk_standsAt) 0 = .ok (.iload_n 1, 1) := by decide +kernel
theorem d_Tk_standsAt_1 : decode (kB K_Tk_standsAt) 1 = .ok (.aload_n 2, 1) := by decide +kernel
theorem d_Tk_standsAt_2 : decode (kB K_Tk_standsAt) 2 = .ok (.invokevirtual 89, 3) := by decide +kernel
theorem d_Tk_standsAt_5 : decode (kB K_Tk_standsAt) 5 = .ok (.iadd, 1) := by decide +kernel
theorem d_Tk_standsAt_6 : decode (kB K_Tk_standsAt) 6 = .ok (.aload_n 0, 1) := by decide +kernel
theorem d_Tk_standsAt_7 : decode (kB K_Tk_standsAt) 7 = .ok (.getfield 36, 3) := by decide +kernel
theorem d_Tk_standsAt_10 : decode (kB K_Tk_standsAt) 10 = .ok (.if_icmp .le 5, 3) := by decide +kernel
theorem d_Tk_standsAt_13 : decode (kB K_Tk_standsAt) 13 = .ok (.iconst 0, 1) := by decide +kernel
theorem d_Tk_standsAt_14 : decode (kB K_Tk_standsAt) 14 = .ok (.ireturn, 1) := by decide +kernel
theorem d_Tk_standsAt_15 : decode (kB K_Tk_standsAt) 15 = .ok (.iconst 0, 1) := by decide +kernel
theorem d_Tk_standsAt_16 : decode (kB K_Tk_standsAt) 16 = .ok (.istore_n 3, 1) := by decide +kernel
theorem d_Tk_standsAt_17 : decode (kB K_Tk_standsAt) 17 = .ok (.iload_n 3, 1) := by decide +kernel
theorem d_Tk_standsAt_18 : decode (kB K_Tk_standsAt) 18 = .ok (.aload_n 2, 1) := by decide +kernel
theorem d_Tk_standsAt_19 : decode (kB K_Tk_standsAt) 19 = .ok (.invokevirtual 89, 3) := by decide +kernel
theorem d_Tk_standsAt_22 : decode (kB K_Tk_standsAt) 22 = .ok (.if_icmp .ge 26, 3) := by decide +kernel
theorem d_Tk_standsAt_25 : decode (kB K_Tk_standsAt) 25 = .ok (.aload_n 0, 1) := by decide +kernel
theorem d_Tk_standsAt_26 : decode (kB K_Tk_standsAt) 26 = .ok (.iload_n 1, 1) := by decide +kernel
theorem d_Tk_standsAt_27 : decode (kB K_Tk_standsAt) 27 = .ok (.iload_n 3, 1) := by decide +kernel
theorem d_Tk_standsAt_28 : decode (kB K_Tk_standsAt) 28 = .ok (.iadd, 1) := by decide +kernel
theorem d_Tk_standsAt_29 : decode (kB K_Tk_standsAt) 29 = .ok (.invokevirtual 71, 3) := by decide +kernel
theorem d_Tk_standsAt_32 : decode (kB K_Tk_standsAt) 32 = .ok (.aload_n 2, 1) := by decide +kernel
theorem d_Tk_standsAt_33 : decode (kB K_Tk_standsAt) 33 = .ok (.iload_n 3, 1) := by decide +kernel
theorem d_Tk_standsAt_34 : decode (kB K_Tk_standsAt) 34 = .ok (.invokevirtual 104, 3) := by decide +kernel
theorem d_Tk_standsAt_37 : decode (kB K_Tk_standsAt) 37 = .ok (.if_icmp .eq 5, 3) := by decide +kernel
theorem d_Tk_standsAt_40 : decode (kB K_Tk_standsAt) 40 = .ok (.iconst 0, 1) := by decide +kernel
theorem d_Tk_standsAt_41 : decode (kB K_Tk_standsAt) 41 = .ok (.ireturn, 1) := by decide +kernel
theorem d_Tk_standsAt_42 : decode (kB K_Tk_standsAt) 42 = .ok (.iinc 3 1, 3) := by decide +kernel
theorem d_Tk_standsAt_45 : decode (kB K_Tk_standsAt) 45 = .ok (.goto (-28), 3) := by decide +kernel
theorem d_Tk_standsAt_48 : decode (kB K_Tk_standsAt) 48 = .ok (.iconst 1, 1) := by decide +kernel
theorem d_Tk_standsAt_49 : decode (kB K_Tk_standsAt) 49 = .ok (.ireturn, 1) := by decide +kernel
def K_Tk_numberWorth : KM := (⟨"ParishBoards$Tokens", "numberWorth", "(II)J"⟩, prog_12_method_14_code, 6, (some (.long)), "ParishBoards$Tokens", ([], []))
theorem d_Tk_numberWorth_0 : decode (kB K_Tk_numberWorth) 0 = .ok (.lconst 0, 1) := by decide +kernel
theorem d_Tk_numberWorth_1 : decode (kB K_Tk_numberWorth) 1 = .ok (.lstore_n 3, 1) := by decide +kernel
theorem d_Tk_numberWorth_2 : decode (kB K_Tk_numberWorth) 2 = .ok (.iload_n 1, 1) := by decide +kernel
theorem d_Tk_numberWorth_3 : decode (kB K_Tk_numberWorth) 3 = .ok (.istore 5, 2) := by decide +kernel
theorem d_Tk_numberWorth_5 : decode (kB K_Tk_numberWorth) 5 = .ok (.iload 5, 2) := by decide +kernel
theorem d_Tk_numberWorth_7 : decode (kB K_Tk_numberWorth) 7 = .ok (.iload_n 2, 1) := by decide +kernel
theorem d_Tk_numberWorth_8 : decode (kB K_Tk_numberWorth) 8 = .ok (.if_icmp .ge 26, 3) := by decide +kernel
theorem d_Tk_numberWorth_11 : decode (kB K_Tk_numberWorth) 11 = .ok (.lload_n 3, 1) := by decide +kernel
theorem d_Tk_numberWorth_12 : decode (kB K_Tk_numberWorth) 12 = .ok (.ldc2_w 108, 3) := by decide +kernel
theorem d_Tk_numberWorth_15 : decode (kB K_Tk_numberWorth) 15 = .ok (.lmul, 1) := by decide +kernel
theorem d_Tk_numberWorth_16 : decode (kB K_Tk_numberWorth) 16 = .ok (.aload_n 0, 1) := by decide +kernel
theorem d_Tk_numberWorth_17 : decode (kB K_Tk_numberWorth) 17 = .ok (.iload 5, 2) := by decide +kernel
theorem d_Tk_numberWorth_19 : decode (kB K_Tk_numberWorth) 19 = .ok (.invokevirtual 71, 3) := by decide +kernel
theorem d_Tk_numberWorth_22 : decode (kB K_Tk_numberWorth) 22 = .ok (.bipush 48, 2) := by decide +kernel
theorem d_Tk_numberWorth_24 : decode (kB K_Tk_numberWorth) 24 = .ok (.isub, 1) := by decide +kernel
theorem d_Tk_numberWorth_25 : decode (kB K_Tk_numberWorth) 25 = .ok (.i2l, 1) := by decide +kernel
theorem d_Tk_numberWorth_26 : decode (kB K_Tk_numberWorth) 26 = .ok (.ladd, 1) := by decide +kernel
theorem d_Tk_numberWorth_27 : decode (kB K_Tk_numberWorth) 27 = .ok (.lstore_n 3, 1) := by decide +kernel
theorem d_Tk_numberWorth_28 : decode (kB K_Tk_numberWorth) 28 = .ok (.iinc 5 1, 3) := by decide +kernel
theorem d_Tk_numberWorth_31 : decode (kB K_Tk_numberWorth) 31 = .ok (.goto (-26), 3) := by decide +kernel
theorem d_Tk_numberWorth_34 : decode (kB K_Tk_numberWorth) 34 = .ok (.lload_n 3, 1) := by decide +kernel
theorem d_Tk_numberWorth_35 : decode (kB K_Tk_numberWorth) 35 = .ok (.lreturn, 1) := by decide +kernel
def K_Tk_nameWorth : KM := (⟨"ParishBoards$Tokens", "nameWorth", "(II)J"⟩, prog_12_method_15_code, 7, (some (.long)), "ParishBoards$Tokens", ([], []))
theorem d_Tk_nameWorth_0 : decode (kB K_Tk_nameWorth) 0 = .ok (.lconst 0, 1) := by decide +kernel
theorem d_Tk_nameWorth_1 : decode (kB K_Tk_nameWorth) 1 = .ok (.lstore_n 3, 1) := by decide +kernel
theorem d_Tk_nameWorth_2 : decode (kB K_Tk_nameWorth) 2 = .ok (.iload_n 1, 1) := by decide +kernel
theorem d_Tk_nameWorth_3 : decode (kB K_Tk_nameWorth) 3 = .ok (.istore 5, 2) := by decide +kernel
theorem d_Tk_nameWorth_5 : decode (kB K_Tk_nameWorth) 5 = .ok (.iload 5, 2) := by decide +kernel
theorem d_Tk_nameWorth_7 : decode (kB K_Tk_nameWorth) 7 = .ok (.iload_n 2, 1) := by decide +kernel
theorem d_Tk_nameWorth_8 : decode (kB K_Tk_nameWorth) 8 = .ok (.if_icmp .ge 51, 3) := by decide +kernel
theorem d_Tk_nameWorth_11 : decode (kB K_Tk_nameWorth) 11 = .ok (.aload_n 0, 1) := by decide +kernel
theorem d_Tk_nameWorth_12 : decode (kB K_Tk_nameWorth) 12 = .ok (.iload 5, 2) := by decide +kernel
theorem d_Tk_nameWorth_14 : decode (kB K_Tk_nameWorth) 14 = .ok (.invokevirtual 71, 3) := by decide +kernel
theorem d_Tk_nameWorth_17 : decode (kB K_Tk_nameWorth) 17 = .ok (.istore 6, 2) := by decide +kernel
theorem d_Tk_nameWorth_19 : decode (kB K_Tk_nameWorth) 19 = .ok (.lload_n 3, 1) := by decide +kernel
theorem d_Tk_nameWorth_20 : decode (kB K_Tk_nameWorth) 20 = .ok (.ldc2_w 110, 3) := by decide +kernel
theorem d_Tk_nameWorth_23 : decode (kB K_Tk_nameWorth) 23 = .ok (.lmul, 1) := by decide +kernel
theorem d_Tk_nameWorth_24 : decode (kB K_Tk_nameWorth) 24 = .ok (.iload 6, 2) := by decide +kernel
theorem d_Tk_nameWorth_26 : decode (kB K_Tk_nameWorth) 26 = .ok (.invokestatic 74, 3) := by decide +kernel
theorem d_Tk_nameWorth_29 : decode (kB K_Tk_nameWorth) 29 = .ok (.ifCond .eq 13, 3) := by decide +kernel
theorem d_Tk_nameWorth_32 : decode (kB K_Tk_nameWorth) 32 = .ok (.iload 6, 2) := by decide +kernel
theorem d_Tk_nameWorth_34 : decode (kB K_Tk_nameWorth) 34 = .ok (.bipush 97, 2) := by decide +kernel
theorem d_Tk_nameWorth_36 : decode (kB K_Tk_nameWorth) 36 = .ok (.isub, 1) := by decide +kernel
theorem d_Tk_nameWorth_37 : decode (kB K_Tk_nameWorth) 37 = .ok (.iconst 1, 1) := by decide +kernel
theorem d_Tk_nameWorth_38 : decode (kB K_Tk_nameWorth) 38 = .ok (.iadd, 1) := by decide +kernel
theorem d_Tk_nameWorth_39 : decode (kB K_Tk_nameWorth) 39 = .ok (.goto 11, 3) := by decide +kernel
theorem d_Tk_nameWorth_42 : decode (kB K_Tk_nameWorth) 42 = .ok (.iload 6, 2) := by decide +kernel
theorem d_Tk_nameWorth_44 : decode (kB K_Tk_nameWorth) 44 = .ok (.bipush 48, 2) := by decide +kernel
theorem d_Tk_nameWorth_46 : decode (kB K_Tk_nameWorth) 46 = .ok (.isub, 1) := by decide +kernel
theorem d_Tk_nameWorth_47 : decode (kB K_Tk_nameWorth) 47 = .ok (.bipush 27, 2) := by decide +kernel
theorem d_Tk_nameWorth_49 : decode (kB K_Tk_nameWorth) 49 = .ok (.iadd, 1) := by decide +kernel
theorem d_Tk_nameWorth_50 : decode (kB K_Tk_nameWorth) 50 = .ok (.i2l, 1) := by decide +kernel
theorem d_Tk_nameWorth_51 : decode (kB K_Tk_nameWorth) 51 = .ok (.ladd, 1) := by decide +kernel
theorem d_Tk_nameWorth_52 : decode (kB K_Tk_nameWorth) 52 = .ok (.lstore_n 3, 1) := by decide +kernel
theorem d_Tk_nameWorth_53 : decode (kB K_Tk_nameWorth) 53 = .ok (.iinc 5 1, 3) := by decide +kernel
theorem d_Tk_nameWorth_56 : decode (kB K_Tk_nameWorth) 56 = .ok (.goto (-51), 3) := by decide +kernel
theorem d_Tk_nameWorth_59 : decode (kB K_Tk_nameWorth) 59 = .ok (.lload_n 3, 1) := by decide +kernel
theorem d_Tk_nameWorth_60 : decode (kB K_Tk_nameWorth) 60 = .ok (.lreturn, 1) := by decide +kernel
def K_Tk_byteAt : KM := (⟨"ParishBoards$Tokens", "byteAt", "(I)I"⟩, prog_12_method_16_code, 2, (some (.int)), "ParishBoards$Tokens", ([], []))
theorem d_Tk_byteAt_0 : decode (kB K_Tk_byteAt) 0 = .ok (.iload_n 1, 1) := by decide +kernel
theorem d_Tk_byteAt_1 : decode (kB K_Tk_byteAt) 1 = .ok (.ifCond .lt 29, 3) := by decide +kernel
theorem d_Tk_byteAt_4 : decode (kB K_Tk_byteAt) 4 = .ok (.iload_n 1, 1) := by decide +kernel
theorem d_Tk_byteAt_5 : decode (kB K_Tk_byteAt) 5 = .ok (.aload_n 0, 1) := by decide +kernel
theorem d_Tk_byteAt_6 : decode (kB K_Tk_byteAt) 6 = .ok (.getfield 36, 3) := by decide +kernel
theorem d_Tk_byteAt_9 : decode (kB K_Tk_byteAt) 9 = .ok (.if_icmp .ge 21, 3) := by decide +kernel
theorem d_Tk_byteAt_12 : decode (kB K_Tk_byteAt) 12 = .ok (.iload_n 1, 1) := by decide +kernel
theorem d_Tk_byteAt_13 : decode (kB K_Tk_byteAt) 13 = .ok (.aload_n 0, 1) := by decide +kernel
theorem d_Tk_byteAt_14 : decode (kB K_Tk_byteAt) 14 = .ok (.getfield 32, 3) := by decide +kernel
theorem d_Tk_byteAt_17 : decode (kB K_Tk_byteAt) 17 = .ok (.arraylength, 1) := by decide +kernel
theorem d_Tk_byteAt_18 : decode (kB K_Tk_byteAt) 18 = .ok (.if_icmp .ge 12, 3) := by decide +kernel
theorem d_Tk_byteAt_21 : decode (kB K_Tk_byteAt) 21 = .ok (.aload_n 0, 1) := by decide +kernel
theorem d_Tk_byteAt_22 : decode (kB K_Tk_byteAt) 22 = .ok (.getfield 32, 3) := by decide +kernel
theorem d_Tk_byteAt_25 : decode (kB K_Tk_byteAt) 25 = .ok (.iload_n 1, 1) := by decide +kernel
theorem d_Tk_byteAt_26 : decode (kB K_Tk_byteAt) 26 = .ok (.baload, 1) := by decide +kernel
theorem d_Tk_byteAt_27 : decode (kB K_Tk_byteAt) 27 = .ok (.goto 4, 3) := by decide +kernel
theorem d_Tk_byteAt_30 : decode (kB K_Tk_byteAt) 30 = .ok (.iconst 0, 1) := by decide +kernel
theorem d_Tk_byteAt_31 : decode (kB K_Tk_byteAt) 31 = .ok (.ireturn, 1) := by decide +kernel
def K_Tk_isLetter : KM := (⟨"ParishBoards$Tokens", "isLetter", "(I)Z"⟩, prog_12_method_17_code, 1, (some (.boolean)), "ParishBoards$Tokens", ([], []))
theorem d_Tk_isLetter_0 : decode (kB K_Tk_isLetter) 0 = .ok (.iload_n 0, 1) := by decide +kernel
theorem d_Tk_isLetter_1 : decode (kB K_Tk_isLetter) 1 = .ok (.bipush 97, 2) := by decide +kernel
theorem d_Tk_isLetter_3 : decode (kB K_Tk_isLetter) 3 = .ok (.if_icmp .lt 13, 3) := by decide +kernel
theorem d_Tk_isLetter_6 : decode (kB K_Tk_isLetter) 6 = .ok (.iload_n 0, 1) := by decide +kernel
theorem d_Tk_isLetter_7 : decode (kB K_Tk_isLetter) 7 = .ok (.bipush 122, 2) := by decide +kernel
theorem d_Tk_isLetter_9 : decode (kB K_Tk_isLetter) 9 = .ok (.if_icmp .gt 7, 3) := by decide +kernel
theorem d_Tk_isLetter_12 : decode (kB K_Tk_isLetter) 12 = .ok (.iconst 1, 1) := by decide +kernel
theorem d_Tk_isLetter_13 : decode (kB K_Tk_isLetter) 13 = .ok (.goto 4, 3) := by decide +kernel
theorem d_Tk_isLetter_16 : decode (kB K_Tk_isLetter) 16 = .ok (.iconst 0, 1) := by decide +kernel
theorem d_Tk_isLetter_17 : decode (kB K_Tk_isLetter) 17 = .ok (.ireturn, 1) := by decide +kernel
def K_Tk_isDigit : KM := (⟨"ParishBoards$Tokens", "isDigit", "(I)Z"⟩, prog_12_method_18_code, 1, (some (.boolean)), "ParishBoards$Tokens", ([], []))
theorem d_Tk_isDigit_0 : decode (kB K_Tk_isDigit) 0 = .ok (.iload_n 0, 1) := by decide +kernel
theorem d_Tk_isDigit_1 : decode (kB K_Tk_isDigit) 1 = .ok (.bipush 48, 2) := by decide +kernel
theorem d_Tk_isDigit_3 : decode (kB K_Tk_isDigit) 3 = .ok (.if_icmp .lt 13, 3) := by decide +kernel
theorem d_Tk_isDigit_6 : decode (kB K_Tk_isDigit) 6 = .ok (.iload_n 0, 1) := by decide +kernel
theorem d_Tk_isDigit_7 : decode (kB K_Tk_isDigit) 7 = .ok (.bipush 57, 2) := by decide +kernel
theorem d_Tk_isDigit_9 : decode (kB K_Tk_isDigit) 9 = .ok (.if_icmp .gt 7, 3) := by decide +kernel
theorem d_Tk_isDigit_12 : decode (kB K_Tk_isDigit) 12 = .ok (.iconst 1, 1) := by decide +kernel
theorem d_Tk_isDigit_13 : decode (kB K_Tk_isDigit) 13 = .ok (.goto 4, 3) := by decide +kernel
theorem d_Tk_isDigit_16 : decode (kB K_Tk_isDigit) 16 = .ok (.iconst 0, 1) := by decide +kernel
theorem d_Tk_isDigit_17 : decode (kB K_Tk_isDigit) 17 = .ok (.ireturn, 1) := by decide +kernel
def K_Wd_init : KM := (⟨"ParishBoards$World", "<init>", "(LParishBoards$Plan;)V"⟩, prog_13_method_1_code, 3, none, "ParishBoards$World", ([], []))
theorem d_Wd_init_0 : decode (kB K_Wd_init) 0 = .ok (.aload_n 0, 1) := by decide +kernel
theorem d_Wd_init_1 : decode (kB K_Wd_init) 1 = .ok (.invokespecial 3, 3) := by decide +kernel
theorem d_Wd_init_4 : decode (kB K_Wd_init) 4 = .ok (.aload_n 0, 1) := by decide +kernel
theorem d_Wd_init_5 : decode (kB K_Wd_init) 5 = .ok (.bipush 60, 2) := by decide +kernel
theorem d_Wd_init_7 : decode (kB K_Wd_init) 7 = .ok (.anewarray 9, 3) := by decide +kernel
theorem d_Wd_init_10 : decode (kB K_Wd_init) 10 = .ok (.putfield 11, 3) := by decide +kernel
theorem d_Wd_init_13 : decode (kB K_Wd_init) 13 = .ok (.aload_n 0, 1) := by decide +kernel
theorem d_Wd_init_14 : decode (kB K_Wd_init) 14 = .ok (.iconst 5, 1) := by decide +kernel
theorem d_Wd_init_15 : decode (kB K_Wd_init) 15 = .ok (.anewarray 17, 3) := by decide +kernel
theorem d_Wd_init_18 : decode (kB K_Wd_init) 18 = .ok (.putfield 19, 3) := by decide +kernel
theorem d_Wd_init_21 : decode (kB K_Wd_init) 21 = .ok (.aload_n 0, 1) := by decide +kernel
theorem d_Wd_init_22 : decode (kB K_Wd_init) 22 = .ok (.bipush 8, 2) := by decide +kernel
theorem d_Wd_init_24 : decode (kB K_Wd_init) 24 = .ok (.anewarray 23, 3) := by decide +kernel
theorem d_Wd_init_27 : decode (kB K_Wd_init) 27 = .ok (.putfield 25, 3) := by decide +kernel
theorem d_Wd_init_30 : decode (kB K_Wd_init) 30 = .ok (.aload_n 0, 1) := by decide +kernel
theorem d_Wd_init_31 : decode (kB K_Wd_init) 31 = .ok (.iconst 0, 1) := by decide +kernel
theorem d_Wd_init_32 : decode (kB K_Wd_init) 32 = .ok (.putfield 29, 3) := by decide +kernel
theorem d_Wd_init_35 : decode (kB K_Wd_init) 35 = .ok (.aload_n 0, 1) := by decide +kernel
theorem d_Wd_init_36 : decode (kB K_Wd_init) 36 = .ok (.iconst 0, 1) := by decide +kernel
theorem d_Wd_init_37 : decode (kB K_Wd_init) 37 = .ok (.putfield 33, 3) := by decide +kernel
theorem d_Wd_init_40 : decode (kB K_Wd_init) 40 = .ok (.aload_n 0, 1) := by decide +kernel
theorem d_Wd_init_41 : decode (kB K_Wd_init) 41 = .ok (.iconst 0, 1) := by decide +kernel
theorem d_Wd_init_42 : decode (kB K_Wd_init) 42 = .ok (.putfield 36, 3) := by decide +kernel
theorem d_Wd_init_45 : decode (kB K_Wd_init) 45 = .ok (.aload_n 0, 1) := by decide +kernel
theorem d_Wd_init_46 : decode (kB K_Wd_init) 46 = .ok (.iconst 0, 1) := by decide +kernel
theorem d_Wd_init_47 : decode (kB K_Wd_init) 47 = .ok (.putfield 39, 3) := by decide +kernel
theorem d_Wd_init_50 : decode (kB K_Wd_init) 50 = .ok (.aload_n 0, 1) := by decide +kernel
theorem d_Wd_init_51 : decode (kB K_Wd_init) 51 = .ok (.aload_n 1, 1) := by decide +kernel
theorem d_Wd_init_52 : decode (kB K_Wd_init) 52 = .ok (.putfield 42, 3) := by decide +kernel
theorem d_Wd_init_55 : decode (kB K_Wd_init) 55 = .ok (.iconst 0, 1) := by decide +kernel
theorem d_Wd_init_56 : decode (kB K_Wd_init) 56 = .ok (.istore_n 2, 1) := by decide +kernel
theorem d_Wd_init_57 : decode (kB K_Wd_init) 57 = .ok (.iload_n 2, 1) := by decide +kernel
theorem d_Wd_init_58 : decode (kB K_Wd_init) 58 = .ok (.aload_n 0, 1) := by decide +kernel
theorem d_Wd_init_59 : decode (kB K_Wd_init) 59 = .ok (.getfield 11, 3) := by decide +kernel
theorem d_Wd_init_62 : decode (kB K_Wd_init) 62 = .ok (.arraylength, 1) := by decide +kernel
theorem d_Wd_init_63 : decode (kB K_Wd_init) 63 = .ok (.if_icmp .ge 22, 3) := by decide +kernel
theorem d_Wd_init_66 : decode (kB K_Wd_init) 66 = .ok (.aload_n 0, 1) := by decide +kernel
theorem d_Wd_init_67 : decode (kB K_Wd_init) 67 = .ok (.getfield 11, 3) := by decide +kernel
theorem d_Wd_init_70 : decode (kB K_Wd_init) 70 = .ok (.iload_n 2, 1) := by decide +kernel
theorem d_Wd_init_71 : decode (kB K_Wd_init) 71 = .ok (.new 9, 3) := by decide +kernel
theorem d_Wd_init_74 : decode (kB K_Wd_init) 74 = .ok (.dup, 1) := by decide +kernel
theorem d_Wd_init_75 : decode (kB K_Wd_init) 75 = .ok (.invokespecial 46, 3) := by decide +kernel
theorem d_Wd_init_78 : decode (kB K_Wd_init) 78 = .ok (.aastore, 1) := by decide +kernel
theorem d_Wd_init_79 : decode (kB K_Wd_init) 79 = .ok (.iinc 2 1, 3) := by decide +kernel
theorem d_Wd_init_82 : decode (kB K_Wd_init) 82 = .ok (.goto (-25), 3) := by decide +kernel
theorem d_Wd_init_85 : decode (kB K_Wd_init) 85 = .ok (.iconst 0, 1) := by decide +kernel
theorem d_Wd_init_86 : decode (kB K_Wd_init) 86 = .ok (.istore_n 2, 1) := by decide +kernel
theorem d_Wd_init_87 : decode (kB K_Wd_init) 87 = .ok (.iload_n 2, 1) := by decide +kernel
theorem d_Wd_init_88 : decode (kB K_Wd_init) 88 = .ok (.aload_n 0, 1) := by decide +kernel
theorem d_Wd_init_89 : decode (kB K_Wd_init) 89 = .ok (.getfield 19, 3) := by decide +kernel
theorem d_Wd_init_92 : decode (kB K_Wd_init) 92 = .ok (.arraylength, 1) := by decide +kernel
theorem d_Wd_init_93 : decode (kB K_Wd_init) 93 = .ok (.if_icmp .ge 22, 3) := by decide +kernel
theorem d_Wd_init_96 : decode (kB K_Wd_init) 96 = .ok (.aload_n 0, 1) := by decide +kernel
theorem d_Wd_init_97 : decode (kB K_Wd_init) 97 = .ok (.getfield 19, 3) := by decide +kernel
theorem d_Wd_init_100 : decode (kB K_Wd_init) 100 = .ok (.iload_n 2, 1) := by decide +kernel
theorem d_Wd_init_101 : decode (kB K_Wd_init) 101 = .ok (.new 17, 3) := by decide +kernel
theorem d_Wd_init_104 : decode (kB K_Wd_init) 104 = .ok (.dup, 1) := by decide +kernel
theorem d_Wd_init_105 : decode (kB K_Wd_init) 105 = .ok (.invokespecial 47, 3) := by decide +kernel
theorem d_Wd_init_108 : decode (kB K_Wd_init) 108 = .ok (.aastore, 1) := by decide +kernel
theorem d_Wd_init_109 : decode (kB K_Wd_init) 109 = .ok (.iinc 2 1, 3) := by decide +kernel
theorem d_Wd_init_112 : decode (kB K_Wd_init) 112 = .ok (.goto (-25), 3) := by decide +kernel
theorem d_Wd_init_115 : decode (kB K_Wd_init) 115 = .ok (.iconst 0, 1) := by decide +kernel
theorem d_Wd_init_116 : decode (kB K_Wd_init) 116 = .ok (.istore_n 2, 1) := by decide +kernel
theorem d_Wd_init_117 : decode (kB K_Wd_init) 117 = .ok (.iload_n 2, 1) := by decide +kernel
theorem d_Wd_init_118 : decode (kB K_Wd_init) 118 = .ok (.aload_n 0, 1) := by decide +kernel
theorem d_Wd_init_119 : decode (kB K_Wd_init) 119 = .ok (.getfield 25, 3) := by decide +kernel
theorem d_Wd_init_122 : decode (kB K_Wd_init) 122 = .ok (.arraylength, 1) := by decide +kernel
theorem d_Wd_init_123 : decode (kB K_Wd_init) 123 = .ok (.if_icmp .ge 22, 3) := by decide +kernel
theorem d_Wd_init_126 : decode (kB K_Wd_init) 126 = .ok (.aload_n 0, 1) := by decide +kernel
theorem d_Wd_init_127 : decode (kB K_Wd_init) 127 = .ok (.getfield 25, 3) := by decide +kernel
theorem d_Wd_init_130 : decode (kB K_Wd_init) 130 = .ok (.iload_n 2, 1) := by decide +kernel
theorem d_Wd_init_131 : decode (kB K_Wd_init) 131 = .ok (.new 23, 3) := by decide +kernel
theorem d_Wd_init_134 : decode (kB K_Wd_init) 134 = .ok (.dup, 1) := by decide +kernel
theorem d_Wd_init_135 : decode (kB K_Wd_init) 135 = .ok (.invokespecial 48, 3) := by decide +kernel
theorem d_Wd_init_138 : decode (kB K_Wd_init) 138 = .ok (.aastore, 1) := by decide +kernel
theorem d_Wd_init_139 : decode (kB K_Wd_init) 139 = .ok (.iinc 2 1, 3) := by decide +kernel
theorem d_Wd_init_142 : decode (kB K_Wd_init) 142 = .ok (.goto (-25), 3) := by decide +kernel
theorem d_Wd_init_145 : decode (kB K_Wd_init) 145 = .ok (.return_, 1) := by decide +kernel
def K_Wd_begin : KM := (⟨"ParishBoards$World", "begin", "(LParishBoards$Plan;)V"⟩, prog_13_method_2_code, 6, none, "ParishBoards$World", ([], []))
theorem d_Wd_begin_0 : decode (kB K_Wd_begin) 0 = .ok (.aload_n 0, 1) := by decide +kernel
theorem d_Wd_begin_1 : decode (kB K_Wd_begin) 1 = .ok (.aload_n 1, 1) := by decide +kernel
theorem d_Wd_begin_2 : decode (kB K_Wd_begin) 2 = .ok (.putfield 42, 3) := by decide +kernel
theorem d_Wd_begin_5 : decode (kB K_Wd_begin) 5 = .ok (.aload_n 0, 1) := by decide +kernel
theorem d_Wd_begin_6 : decode (kB K_Wd_begin) 6 = .ok (.iconst 0, 1) := by decide +kernel
theorem d_Wd_begin_7 : decode (kB K_Wd_begin) 7 = .ok (.putfield 29, 3) := by decide +kernel
theorem d_Wd_begin_10 : decode (kB K_Wd_begin) 10 = .ok (.aload_n 0, 1) := by decide +kernel
theorem d_Wd_begin_11 : decode (kB K_Wd_begin) 11 = .ok (.iconst 0, 1) := by decide +kernel
theorem d_Wd_begin_12 : decode (kB K_Wd_begin) 12 = .ok (.putfield 33, 3) := by decide +kernel
theorem d_Wd_begin_15 : decode (kB K_Wd_begin) 15 = .ok (.aload_n 0, 1) := by decide +kernel
theorem d_Wd_begin_16 : decode (kB K_Wd_begin) 16 = .ok (.iconst 0, 1) := by decide +kernel
theorem d_Wd_begin_17 : decode (kB K_Wd_begin) 17 = .ok (.putfield 36, 3) := by decide +kernel
theorem d_Wd_begin_20 : decode (kB K_Wd_begin) 20 = .ok (.aload_n 0, 1) := by decide +kernel
theorem d_Wd_begin_21 : decode (kB K_Wd_begin) 21 = .ok (.iconst 0, 1) := by decide +kernel
theorem d_Wd_begin_22 : decode (kB K_Wd_begin) 22 = .ok (.putfield 39, 3) := by decide +kernel
theorem d_Wd_begin_25 : decode (kB K_Wd_begin) 25 = .ok (.aload_n 0, 1) := by decide +kernel
theorem d_Wd_begin_26 : decode (kB K_Wd_begin) 26 = .ok (.getfield 19, 3) := by decide +kernel
theorem d_Wd_begin_29 : decode (kB K_Wd_begin) 29 = .ok (.astore_n 2, 1) := by decide +kernel
theorem d_Wd_begin_30 : decode (kB K_Wd_begin) 30 = .ok (.aload_n 2, 1) := by decide +kernel
theorem d_Wd_begin_31 : decode (kB K_Wd_begin) 31 = .ok (.arraylength, 1) := by decide +kernel
theorem d_Wd_begin_32 : decode (kB K_Wd_begin) 32 = .ok (.istore_n 3, 1) := by decide +kernel
theorem d_Wd_begin_33 : decode (kB K_Wd_begin) 33 = .ok (.iconst 0, 1) := by decide +kernel
theorem d_Wd_begin_34 : decode (kB K_Wd_begin) 34 = .ok (.istore 4, 2) := by decide +kernel
theorem d_Wd_begin_36 : decode (kB K_Wd_begin) 36 = .ok (.iload 4, 2) := by decide +kernel
theorem d_Wd_begin_38 : decode (kB K_Wd_begin) 38 = .ok (.iload_n 3, 1) := by decide +kernel
theorem d_Wd_begin_39 : decode (kB K_Wd_begin) 39 = .ok (.if_icmp .ge 20, 3) := by decide +kernel
theorem d_Wd_begin_42 : decode (kB K_Wd_begin) 42 = .ok (.aload_n 2, 1) := by decide +kernel
theorem d_Wd_begin_43 : decode (kB K_Wd_begin) 43 = .ok (.iload 4, 2) := by decide +kernel
theorem d_Wd_begin_45 : decode (kB K_Wd_begin) 45 = .ok (.aaload, 1) := by decide +kernel
theorem d_Wd_begin_46 : decode (kB K_Wd_begin) 46 = .ok (.astore 5, 2) := by decide +kernel
theorem d_Wd_begin_48 : decode (kB K_Wd_begin) 48 = .ok (.aload 5, 2) := by decide +kernel
theorem d_Wd_begin_50 : decode (kB K_Wd_begin) 50 = .ok (.invokevirtual 49, 3) := by decide +kernel
theorem d_Wd_begin_53 : decode (kB K_Wd_begin) 53 = .ok (.iinc 4 1, 3) := by decide +kernel
theorem d_Wd_begin_56 : decode (kB K_Wd_begin) 56 = .ok (.goto (-20), 3) := by decide +kernel
theorem d_Wd_begin_59 : decode (kB K_Wd_begin) 59 = .ok (.iconst 0, 1) := by decide +kernel
theorem d_Wd_begin_60 : decode (kB K_Wd_begin) 60 = .ok (.istore_n 2, 1) := by decide +kernel
theorem d_Wd_begin_61 : decode (kB K_Wd_begin) 61 = .ok (.iload_n 2, 1) := by decide +kernel
theorem d_Wd_begin_62 : decode (kB K_Wd_begin) 62 = .ok (.aload_n 0, 1) := by decide +kernel
theorem d_Wd_begin_63 : decode (kB K_Wd_begin) 63 = .ok (.getfield 42, 3) := by decide +kernel
theorem d_Wd_begin_66 : decode (kB K_Wd_begin) 66 = .ok (.getfield 52, 3) := by decide +kernel
theorem d_Wd_begin_69 : decode (kB K_Wd_begin) 69 = .ok (.if_icmp .ge 27, 3) := by decide +kernel
theorem d_Wd_begin_72 : decode (kB K_Wd_begin) 72 = .ok (.aload_n 0, 1) := by decide +kernel
theorem d_Wd_begin_73 : decode (kB K_Wd_begin) 73 = .ok (.getfield 25, 3) := by decide +kernel
theorem d_Wd_begin_76 : decode (kB K_Wd_begin) 76 = .ok (.iload_n 2, 1) := by decide +kernel
theorem d_Wd_begin_77 : decode (kB K_Wd_begin) 77 = .ok (.aaload, 1) := by decide +kernel
theorem d_Wd_begin_78 : decode (kB K_Wd_begin) 78 = .ok (.aload_n 0, 1) := by decide +kernel
theorem d_Wd_begin_79 : decode (kB K_Wd_begin) 79 = .ok (.getfield 42, 3) := by decide +kernel
theorem d_Wd_begin_82 : decode (kB K_Wd_begin) 82 = .ok (.getfield 57, 3) := by decide +kernel
theorem d_Wd_begin_85 : decode (kB K_Wd_begin) 85 = .ok (.iload_n 2, 1) := by decide +kernel
theorem d_Wd_begin_86 : decode (kB K_Wd_begin) 86 = .ok (.aaload, 1) := by decide +kernel
theorem d_Wd_begin_87 : decode (kB K_Wd_begin) 87 = .ok (.invokevirtual 58, 3) := by decide +kernel
theorem d_Wd_begin_90 : decode (kB K_Wd_begin) 90 = .ok (.iinc 2 1, 3) := by decide +kernel
theorem d_Wd_begin_93 : decode (kB K_Wd_begin) 93 = .ok (.goto (-32), 3) := by decide +kernel
theorem d_Wd_begin_96 : decode (kB K_Wd_begin) 96 = .ok (.return_, 1) := by decide +kernel
def K_Wd_tally : KM := (⟨"ParishBoards$World", "tally", "(I)I"⟩, prog_13_method_4_code, 2, (some (.int)), "ParishBoards$World", ([], []))
theorem d_Wd_tally_0 : decode (kB K_Wd_tally) 0 = .ok (.iload_n 1, 1) := by decide +kernel
theorem d_Wd_tally_1 : decode (kB K_Wd_tally) 1 = .ok (.tableswitch 135 0 11 #[63, 68, 76, 84, 92, 100, 105, 110, 115, 120, 125, 130], 63) := by decide +kernel
theorem d_Wd_tally_64 : decode (kB K_Wd_tally) 64 = .ok (.aload_n 0, 1) := by decide +kernel
theorem d_Wd_tally_65 : decode (kB K_Wd_tally) 65 = .ok (.getfield 29, 3) := by decide +kernel
theorem d_Wd_tally_68 : decode (kB K_Wd_tally) 68 = .ok (.ireturn, 1) := by decide +kernel
theorem d_Wd_tally_69 : decode (kB K_Wd_tally) 69 = .ok (.aload_n 0, 1) := by decide +kernel
theorem d_Wd_tally_70 : decode (kB K_Wd_tally) 70 = .ok (.getfield 42, 3) := by decide +kernel
theorem d_Wd_tally_73 : decode (kB K_Wd_tally) 73 = .ok (.getfield 65, 3) := by decide +kernel
theorem d_Wd_tally_76 : decode (kB K_Wd_tally) 76 = .ok (.ireturn, 1) := by decide +kernel
theorem d_Wd_tally_77 : decode (kB K_Wd_tally) 77 = .ok (.aload_n 0, 1) := by decide +kernel
theorem d_Wd_tally_78 : decode (kB K_Wd_tally) 78 = .ok (.getfield 42, 3) := by decide +kernel
theorem d_Wd_tally_81 : decode (kB K_Wd_tally) 81 = .ok (.getfield 71, 3) := by decide +kernel
theorem d_Wd_tally_84 : decode (kB K_Wd_tally) 84 = .ok (.ireturn, 1) := by decide +kernel
theorem d_Wd_tally_85 : decode (kB K_Wd_tally) 85 = .ok (.aload_n 0, 1) := by decide +kernel
theorem d_Wd_tally_86 : decode (kB K_Wd_tally) 86 = .ok (.getfield 42, 3) := by decide +kernel
theorem d_Wd_tally_89 : decode (kB K_Wd_tally) 89 = .ok (.getfield 52, 3) := by decide +kernel
theorem d_Wd_tally_92 : decode (kB K_Wd_tally) 92 = .ok (.ireturn, 1) := by decide +kernel
theorem d_Wd_tally_93 : decode (kB K_Wd_tally) 93 = .ok (.aload_n 0, 1) := by decide +kernel
theorem d_Wd_tally_94 : decode (kB K_Wd_tally) 94 = .ok (.getfield 42, 3) := by decide +kernel
theorem d_Wd_tally_97 : decode (kB K_Wd_tally) 97 = .ok (.getfield 74, 3) := by decide +kernel
theorem d_Wd_tally_100 : decode (kB K_Wd_tally) 100 = .ok (.ireturn, 1) := by decide +kernel
theorem d_Wd_tally_101 : decode (kB K_Wd_tally) 101 = .ok (.aload_n 0, 1) := by decide +kernel
theorem d_Wd_tally_102 : decode (kB K_Wd_tally) 102 = .ok (.getfield 33, 3) := by decide +kernel
theorem d_Wd_tally_105 : decode (kB K_Wd_tally) 105 = .ok (.ireturn, 1) := by decide +kernel
theorem d_Wd_tally_106 : decode (kB K_Wd_tally) 106 = .ok (.aload_n 0, 1) := by decide +kernel
theorem d_Wd_tally_107 : decode (kB K_Wd_tally) 107 = .ok (.invokevirtual 77, 3) := by decide +kernel
theorem d_Wd_tally_110 : decode (kB K_Wd_tally) 110 = .ok (.ireturn, 1) := by decide +kernel
theorem d_Wd_tally_111 : decode (kB K_Wd_tally) 111 = .ok (.aload_n 0, 1) := by decide +kernel
theorem d_Wd_tally_112 : decode (kB K_Wd_tally) 112 = .ok (.invokevirtual 81, 3) := by decide +kernel
theorem d_Wd_tally_115 : decode (kB K_Wd_tally) 115 = .ok (.ireturn, 1) := by decide +kernel
theorem d_Wd_tally_116 : decode (kB K_Wd_tally) 116 = .ok (.aload_n 0, 1) := by decide +kernel
theorem d_Wd_tally_117 : decode (kB K_Wd_tally) 117 = .ok (.invokevirtual 84, 3) := by decide +kernel
theorem d_Wd_tally_120 : decode (kB K_Wd_tally) 120 = .ok (.ireturn, 1) := by decide +kernel
theorem d_Wd_tally_121 : decode (kB K_Wd_tally) 121 = .ok (.aload_n 0, 1) := by decide +kernel
theorem d_Wd_tally_122 : decode (kB K_Wd_tally) 122 = .ok (.getfield 36, 3) := by decide +kernel
theorem d_Wd_tally_125 : decode (kB K_Wd_tally) 125 = .ok (.ireturn, 1) := by decide +kernel
theorem d_Wd_tally_126 : decode (kB K_Wd_tally) 126 = .ok (.aload_n 0, 1) := by decide +kernel
theorem d_Wd_tally_127 : decode (kB K_Wd_tally) 127 = .ok (.invokevirtual 87, 3) := by decide +kernel
theorem d_Wd_tally_130 : decode (kB K_Wd_tally) 130 = .ok (.ireturn, 1) := by decide +kernel
theorem d_Wd_tally_131 : decode (kB K_Wd_tally) 131 = .ok (.aload_n 0, 1) := by decide +kernel
theorem d_Wd_tally_132 : decode (kB K_Wd_tally) 132 = .ok (.getfield 39, 3) := by decide +kernel
theorem d_Wd_tally_135 : decode (kB K_Wd_tally) 135 = .ok (.ireturn, 1) := by decide +kernel
theorem d_Wd_tally_136 : decode (kB K_Wd_tally) 136 = .ok (.iconst 0, 1) := by decide +kernel
theorem d_Wd_tally_137 : decode (kB K_Wd_tally) 137 = .ok (.ireturn, 1) := by decide +kernel
def K_Wd_parishFact : KM := (⟨"ParishBoards$World", "parishFact", "(II)I"⟩, prog_13_method_5_code, 4, (some (.int)), "ParishBoards$World", ([], []))
theorem d_Wd_parishFact_0 : decode (kB K_Wd_parishFact) 0 = .ok (.aload_n 0, 1) := by decide +kernel
theorem d_Wd_parishFact_1 : decode (kB K_Wd_parishFact) 1 = .ok (.getfield 19, 3) := by decide +kernel
theorem d_Wd_parishFact_4 : decode (kB K_Wd_parishFact) 4 = .ok (.iload_n 1, 1) := by decide +kernel
theorem d_Wd_parishFact_5 : decode (kB K_Wd_parishFact) 5 = .ok (.aaload, 1) := by decide +kernel
theorem d_Wd_parishFact_6 : decode (kB K_Wd_parishFact) 6 = .ok (.astore_n 3, 1) := by decide +kernel
theorem d_Wd_parishFact_7 : decode (kB K_Wd_parishFact) 7 = .ok (.iload_n 2, 1) := by decide +kernel
theorem d_Wd_parishFact_8 : decode (kB K_Wd_parishFact) 8 = .ok (.tableswitch 75 0 5 #[40, 45, 50, 56, 62, 69], 40) := by decide +kernel
theorem d_Wd_parishFact_48 : decode (kB K_Wd_parishFact) 48 = .ok (.aload_n 3, 1) := by decide +kernel
theorem d_Wd_parishFact_49 : decode (kB K_Wd_parishFact) 49 = .ok (.invokevirtual 90, 3) := by decide +kernel
theorem d_Wd_parishFact_52 : decode (kB K_Wd_parishFact) 52 = .ok (.ireturn, 1) := by decide +kernel
theorem d_Wd_parishFact_53 : decode (kB K_Wd_parishFact) 53 = .ok (.aload_n 3, 1) := by decide +kernel
theorem d_Wd_parishFact_54 : decode (kB K_Wd_parishFact) 54 = .ok (.getfield 93, 3) := by decide +kernel
theorem d_Wd_parishFact_57 : decode (kB K_Wd_parishFact) 57 = .ok (.ireturn, 1) := by decide +kernel
theorem d_Wd_parishFact_58 : decode (kB K_Wd_parishFact) 58 = .ok (.aload_n 3, 1) := by decide +kernel
theorem d_Wd_parishFact_59 : decode (kB K_Wd_parishFact) 59 = .ok (.iconst 1, 1) := by decide +kernel
theorem d_Wd_parishFact_60 : decode (kB K_Wd_parishFact) 60 = .ok (.invokevirtual 96, 3) := by decide +kernel
theorem d_Wd_parishFact_63 : decode (kB K_Wd_parishFact) 63 = .ok (.ireturn, 1) := by decide +kernel
theorem d_Wd_parishFact_64 : decode (kB K_Wd_parishFact) 64 = .ok (.aload_n 3, 1) := by decide +kernel
theorem d_Wd_parishFact_65 : decode (kB K_Wd_parishFact) 65 = .ok (.iconst 2, 1) := by decide +kernel
theorem d_Wd_parishFact_66 : decode (kB K_Wd_parishFact) 66 = .ok (.invokevirtual 96, 3) := by decide +kernel
theorem d_Wd_parishFact_69 : decode (kB K_Wd_parishFact) 69 = .ok (.ireturn, 1) := by decide +kernel
theorem d_Wd_parishFact_70 : decode (kB K_Wd_parishFact) 70 = .ok (.aload_n 3, 1) := by decide +kernel
theorem d_Wd_parishFact_71 : decode (kB K_Wd_parishFact) 71 = .ok (.getfield 100, 3) := by decide +kernel
theorem d_Wd_parishFact_74 : decode (kB K_Wd_parishFact) 74 = .ok (.iload_n 1, 1) := by decide +kernel
theorem d_Wd_parishFact_75 : decode (kB K_Wd_parishFact) 75 = .ok (.iaload, 1) := by decide +kernel
theorem d_Wd_parishFact_76 : decode (kB K_Wd_parishFact) 76 = .ok (.ireturn, 1) := by decide +kernel
theorem d_Wd_parishFact_77 : decode (kB K_Wd_parishFact) 77 = .ok (.aload_n 0, 1) := by decide +kernel
theorem d_Wd_parishFact_78 : decode (kB K_Wd_parishFact) 78 = .ok (.iload_n 1, 1) := by decide +kernel
theorem d_Wd_parishFact_79 : decode (kB K_Wd_parishFact) 79 = .ok (.invokevirtual 104, 3) := by decide +kernel
theorem d_Wd_parishFact_82 : decode (kB K_Wd_parishFact) 82 = .ok (.ireturn, 1) := by decide +kernel
theorem d_Wd_parishFact_83 : decode (kB K_Wd_parishFact) 83 = .ok (.iconst 0, 1) := by decide +kernel
theorem d_Wd_parishFact_84 : decode (kB K_Wd_parishFact) 84 = .ok (.ireturn, 1) := by decide +kernel
def K_Wd_sheetFact : KM := (⟨"ParishBoards$World", "sheetFact", "(II)I"⟩, prog_13_method_6_code, 4, (some (.int)), "ParishBoards$World", ([], []))
theorem d_Wd_sheetFact_0 : decode (kB K_Wd_sheetFact) 0 = .ok (.aload_n 0, 1) := by decide +kernel
theorem d_Wd_sheetFact_1 : decode (kB K_Wd_sheetFact) 1 = .ok (.getfield 11, 3) := by decide +kernel
theorem d_Wd_sheetFact_4 : decode (kB K_Wd_sheetFact) 4 = .ok (.iload_n 1, 1) := by decide +kernel
theorem d_Wd_sheetFact_5 : decode (kB K_Wd_sheetFact) 5 = .ok (.aaload, 1) := by decide +kernel
theorem d_Wd_sheetFact_6 : decode (kB K_Wd_sheetFact) 6 = .ok (.astore_n 3, 1) := by decide +kernel
theorem d_Wd_sheetFact_7 : decode (kB K_Wd_sheetFact) 7 = .ok (.iload_n 2, 1) := by decide +kernel
theorem d_Wd_sheetFact_8 : decode (kB K_Wd_sheetFact) 8 = .ok (.tableswitch 90 0 7 #[48, 53, 58, 63, 68, 73, 78, 84], 48) := by decide +kernel
theorem d_Wd_sheetFact_56 : decode (kB K_Wd_sheetFact) 56 = .ok (.aload_n 3, 1) := by decide +kernel
theorem d_Wd_sheetFact_57 : decode (kB K_Wd_sheetFact) 57 = .ok (.getfield 107, 3) := by decide +kernel
theorem d_Wd_sheetFact_60 : decode (kB K_Wd_sheetFact) 60 = .ok (.ireturn, 1) := by decide +kernel
theorem d_Wd_sheetFact_61 : decode (kB K_Wd_sheetFact) 61 = .ok (.aload_n 3, 1) := by decide +kernel
theorem d_Wd_sheetFact_62 : decode (kB K_Wd_sheetFact) 62 = .ok (.getfield 110, 3) := by decide +kernel
theorem d_Wd_sheetFact_65 : decode (kB K_Wd_sheetFact) 65 = .ok (.ireturn, 1) := by decide +kernel
theorem d_Wd_sheetFact_66 : decode (kB K_Wd_sheetFact) 66 = .ok (.aload_n 3, 1) := by decide +kernel
theorem d_Wd_sheetFact_67 : decode (kB K_Wd_sheetFact) 67 = .ok (.getfield 113, 3) := by decide +kernel
theorem d_Wd_sheetFact_70 : decode (kB K_Wd_sheetFact) 70 = .ok (.ireturn, 1) := by decide +kernel
theorem d_Wd_sheetFact_71 : decode (kB K_Wd_sheetFact) 71 = .ok (.aload_n 3, 1) := by decide +kernel
theorem d_Wd_sheetFact_72 : decode (kB K_Wd_sheetFact) 72 = .ok (.getfield 116, 3) := by decide +kernel
theorem d_Wd_sheetFact_75 : decode (kB K_Wd_sheetFact) 75 = .ok (.ireturn, 1) := by decide +kernel
theorem d_Wd_sheetFact_76 : decode (kB K_Wd_sheetFact) 76 = .ok (.aload_n 3, 1) := by decide +kernel
theorem d_Wd_sheetFact_77 : decode (kB K_Wd_sheetFact) 77 = .ok (.getfield 119, 3) := by decide +kernel
theorem d_Wd_sheetFact_80 : decode (kB K_Wd_sheetFact) 80 = .ok (.ireturn, 1) := by decide +kernel
theorem d_Wd_sheetFact_81 : decode (kB K_Wd_sheetFact) 81 = .ok (.aload_n 3, 1) := by decide +kernel
theorem d_Wd_sheetFact_82 : decode (kB K_Wd_sheetFact) 82 = .ok (.getfield 120, 3) := by decide +kernel
theorem d_Wd_sheetFact_85 : decode (kB K_Wd_sheetFact) 85 = .ok (.ireturn, 1) := by decide +kernel
theorem d_Wd_sheetFact_86 : decode (kB K_Wd_sheetFact) 86 = .ok (.aload_n 0, 1) := by decide +kernel
theorem d_Wd_sheetFact_87 : decode (kB K_Wd_sheetFact) 87 = .ok (.iload_n 1, 1) := by decide +kernel
theorem d_Wd_sheetFact_88 : decode (kB K_Wd_sheetFact) 88 = .ok (.invokevirtual 123, 3) := by decide +kernel
theorem d_Wd_sheetFact_91 : decode (kB K_Wd_sheetFact) 91 = .ok (.ireturn, 1) := by decide +kernel
theorem d_Wd_sheetFact_92 : decode (kB K_Wd_sheetFact) 92 = .ok (.aload_n 0, 1) := by decide +kernel
theorem d_Wd_sheetFact_93 : decode (kB K_Wd_sheetFact) 93 = .ok (.iload_n 1, 1) := by decide +kernel
theorem d_Wd_sheetFact_94 : decode (kB K_Wd_sheetFact) 94 = .ok (.invokevirtual 126, 3) := by decide +kernel
theorem d_Wd_sheetFact_97 : decode (kB K_Wd_sheetFact) 97 = .ok (.ireturn, 1) := by decide +kernel
theorem d_Wd_sheetFact_98 : decode (kB K_Wd_sheetFact) 98 = .ok (.iconst 0, 1) := by decide +kernel
theorem d_Wd_sheetFact_99 : decode (kB K_Wd_sheetFact) 99 = .ok (.ireturn, 1) := by decide +kernel
def K_Wd_roadFact : KM := (⟨"ParishBoards$World", "roadFact", "(II)I"⟩, prog_13_method_7_code, 4, (some (.int)), "ParishBoards$World", ([], []))
theorem d_Wd_roadFact_0 : decode (kB K_Wd_roadFact) 0 = .ok (.aload_n 0, 1) := by decide +kernel
theorem d_Wd_roadFact_1 : decode (kB K_Wd_roadFact) 1 = .ok (.getfield 25, 3) := by decide +kernel
theorem d_Wd_roadFact_4 : decode (kB K_Wd_roadFact) 4 = .ok (.iload_n 1, 1) := by decide +kernel
theorem d_Wd_roadFact_5 : decode (kB K_Wd_roadFact) 5 = .ok (.aaload, 1) := by decide +kernel
theorem d_Wd_roadFact_6 : decode (kB K_Wd_roadFact) 6 = .ok (.astore_n 3, 1) := by decide +kernel
theorem d_Wd_roadFact_7 : decode (kB K_Wd_roadFact) 7 = .ok (.iload_n 2, 1) := by decide +kernel
theorem d_Wd_roadFact_8 : decode (kB K_Wd_roadFact) 8 = .ok (.tableswitch 62 0 4 #[36, 41, 46, 51, 57], 36) := by decide +kernel
theorem d_Wd_roadFact_44 : decode (kB K_Wd_roadFact) 44 = .ok (.aload_n 3, 1) := by decide +kernel
theorem d_Wd_roadFact_45 : decode (kB K_Wd_roadFact) 45 = .ok (.getfield 129, 3) := by decide +kernel
theorem d_Wd_roadFact_48 : decode (kB K_Wd_roadFact) 48 = .ok (.ireturn, 1) := by decide +kernel
theorem d_Wd_roadFact_49 : decode (kB K_Wd_roadFact) 49 = .ok (.aload_n 3, 1) := by decide +kernel
theorem d_Wd_roadFact_50 : decode (kB K_Wd_roadFact) 50 = .ok (.getfield 132, 3) := by decide +kernel
theorem d_Wd_roadFact_53 : decode (kB K_Wd_roadFact) 53 = .ok (.ireturn, 1) := by decide +kernel
theorem d_Wd_roadFact_54 : decode (kB K_Wd_roadFact) 54 = .ok (.aload_n 3, 1) := by decide +kernel
theorem d_Wd_roadFact_55 : decode (kB K_Wd_roadFact) 55 = .ok (.getfield 135, 3) := by decide +kernel
theorem d_Wd_roadFact_58 : decode (kB K_Wd_roadFact) 58 = .ok (.ireturn, 1) := by decide +kernel
theorem d_Wd_roadFact_59 : decode (kB K_Wd_roadFact) 59 = .ok (.aload_n 0, 1) := by decide +kernel
theorem d_Wd_roadFact_60 : decode (kB K_Wd_roadFact) 60 = .ok (.aload_n 3, 1) := by decide +kernel
theorem d_Wd_roadFact_61 : decode (kB K_Wd_roadFact) 61 = .ok (.invokevirtual 138, 3) := by decide +kernel
theorem d_Wd_roadFact_64 : decode (kB K_Wd_roadFact) 64 = .ok (.ireturn, 1) := by decide +kernel
theorem d_Wd_roadFact_65 : decode (kB K_Wd_roadFact) 65 = .ok (.aload_n 3, 1) := by decide +kernel
theorem d_Wd_roadFact_66 : decode (kB K_Wd_roadFact) 66 = .ok (.getfield 142, 3) := by decide +kernel
theorem d_Wd_roadFact_69 : decode (kB K_Wd_roadFact) 69 = .ok (.ireturn, 1) := by decide +kernel
theorem d_Wd_roadFact_70 : decode (kB K_Wd_roadFact) 70 = .ok (.iconst 0, 1) := by decide +kernel
theorem d_Wd_roadFact_71 : decode (kB K_Wd_roadFact) 71 = .ok (.ireturn, 1) := by decide +kernel
def K_Wd_isKnownAt : KM := (⟨"ParishBoards$World", "isKnownAt", "(II)Z"⟩, prog_13_method_8_code, 3, (some (.boolean)), "ParishBoards$World", ([], []))
theorem d_Wd_isKnownAt_0 : decode (kB K_Wd_isKnownAt) 0 = .ok (.aload_n 0, 1) := by decide +kernel
theorem d_Wd_isKnownAt_1 : decode (kB K_Wd_isKnownAt) 1 = .ok (.getfield 19, 3) := by decide +kernel
theorem d_Wd_isKnownAt_4 : decode (kB K_Wd_isKnownAt) 4 = .ok (.iload_n 1, 1) := by decide +kernel
theorem d_Wd_isKnownAt_5 : decode (kB K_Wd_isKnownAt) 5 = .ok (.aaload, 1) := by decide +kernel
theorem d_Wd_isKnownAt_6 : decode (kB K_Wd_isKnownAt) 6 = .ok (.aload_n 0, 1) := by decide +kernel
theorem d_Wd_isKnownAt_7 : decode (kB K_Wd_isKnownAt) 7 = .ok (.getfield 11, 3) := by decide +kernel
theorem d_Wd_isKnownAt_10 : decode (kB K_Wd_isKnownAt) 10 = .ok (.iload_n 2, 1) := by decide +kernel
theorem d_Wd_isKnownAt_11 : decode (kB K_Wd_isKnownAt) 11 = .ok (.aaload, 1) := by decide +kernel
theorem d_Wd_isKnownAt_12 : decode (kB K_Wd_isKnownAt) 12 = .ok (.invokevirtual 145, 3) := by decide +kernel
theorem d_Wd_isKnownAt_15 : decode (kB K_Wd_isKnownAt) 15 = .ok (.ireturn, 1) := by decide +kernel
def K_Wd_knowers : KM := (⟨"ParishBoards$World", "knowers", "(I)I"⟩, prog_13_method_9_code, 4, (some (.int)), "ParishBoards$World", ([], []))
theorem d_Wd_knowers_0 : decode (kB K_Wd_knowers) 0 = .ok (.iconst 0, 1) := by decide +kernel
theorem d_Wd_knowers_1 : decode (kB K_Wd_knowers) 1 = .ok (.istore_n 2, 1) := by decide +kernel
theorem d_Wd_knowers_2 : decode (kB K_Wd_knowers) 2 = .ok (.iconst 0, 1) := by decide +kernel
theorem d_Wd_knowers_3 : decode (kB K_Wd_knowers) 3 = .ok (.istore_n 3, 1) := by decide +kernel
theorem d_Wd_knowers_4 : decode (kB K_Wd_knowers) 4 = .ok (.iload_n 3, 1) := by decide +kernel
theorem d_Wd_knowers_5 : decode (kB K_Wd_knowers) 5 = .ok (.aload_n 0, 1) := by decide +kernel
theorem d_Wd_knowers_6 : decode (kB K_Wd_knowers) 6 = .ok (.getfield 42, 3) := by decide +kernel
theorem d_Wd_knowers_9 : decode (kB K_Wd_knowers) 9 = .ok (.getfield 65, 3) := by decide +kernel
theorem d_Wd_knowers_12 : decode (kB K_Wd_knowers) 12 = .ok (.if_icmp .ge 26, 3) := by decide +kernel
theorem d_Wd_knowers_15 : decode (kB K_Wd_knowers) 15 = .ok (.iload_n 2, 1) := by decide +kernel
theorem d_Wd_knowers_16 : decode (kB K_Wd_knowers) 16 = .ok (.aload_n 0, 1) := by decide +kernel
theorem d_Wd_knowers_17 : decode (kB K_Wd_knowers) 17 = .ok (.iload_n 3, 1) := by decide +kernel
theorem d_Wd_knowers_18 : decode (kB K_Wd_knowers) 18 = .ok (.iload_n 1, 1) := by decide +kernel
theorem d_Wd_knowers_19 : decode (kB K_Wd_knowers) 19 = .ok (.invokevirtual 149, 3) := by decide +kernel
theorem d_Wd_knowers_22 : decode (kB K_Wd_knowers) 22 = .ok (.ifCond .eq 7, 3) := by decide +kernel
theorem d_Wd_knowers_25 : decode (kB K_Wd_knowers) 25 = .ok (.iconst 1, 1) := by decide +kernel
theorem d_Wd_knowers_26 : decode (kB K_Wd_knowers) 26 = .ok (.goto 4, 3) := by decide +kernel
theorem d_Wd_knowers_29 : decode (kB K_Wd_knowers) 29 = .ok (.iconst 0, 1) := by decide +kernel
theorem d_Wd_knowers_30 : decode (kB K_Wd_knowers) 30 = .ok (.iadd, 1) := by decide +kernel
theorem d_Wd_knowers_31 : decode (kB K_Wd_knowers) 31 = .ok (.istore_n 2, 1) := by decide +kernel
theorem d_Wd_knowers_32 : decode (kB K_Wd_knowers) 32 = .ok (.iinc 3 1, 3) := by decide +kernel
theorem d_Wd_knowers_35 : decode (kB K_Wd_knowers) 35 = .ok (.goto (-31), 3) := by decide +kernel
theorem d_Wd_knowers_38 : decode (kB K_Wd_knowers) 38 = .ok (.iload_n 2, 1) := by decide +kernel
theorem d_Wd_knowers_39 : decode (kB K_Wd_knowers) 39 = .ok (.ireturn, 1) := by decide +kernel
def K_Wd_knownOnBoards : KM := (⟨"ParishBoards$World", "knownOnBoards", "()I"⟩, prog_13_method_10_code, 3, (some (.int)), "ParishBoards$World", ([], []))
theorem d_Wd_knownOnBoards_0 : decode (kB K_Wd_knownOnBoards) 0 = .ok (.iconst 0, 1) := by decide +kernel
theorem d_Wd_knownOnBoards_1 : decode (kB K_Wd_knownOnBoards) 1 = .ok (.istore_n 1, 1) := by decide +kernel
theorem d_Wd_knownOnBoards_2 : decode (kB K_Wd_knownOnBoards) 2 = .ok (.iconst 0, 1) := by decide +kernel
theorem d_Wd_knownOnBoards_3 : decode (kB K_Wd_knownOnBoards) 3 = .ok (.istore_n 2, 1) := by decide +kernel
theorem d_Wd_knownOnBoards_4 : decode (kB K_Wd_knownOnBoards) 4 = .ok (.iload_n 2, 1) := by decide +kernel
theorem d_Wd_knownOnBoards_5 : decode (kB K_Wd_knownOnBoards) 5 = .ok (.aload_n 0, 1) := by decide +kernel
theorem d_Wd_knownOnBoards_6 : decode (kB K_Wd_knownOnBoards) 6 = .ok (.getfield 42, 3) := by decide +kernel
theorem d_Wd_knownOnBoards_9 : decode (kB K_Wd_knownOnBoards) 9 = .ok (.getfield 65, 3) := by decide +kernel
theorem d_Wd_knownOnBoards_12 : decode (kB K_Wd_knownOnBoards) 12 = .ok (.if_icmp .ge 21, 3) := by decide +kernel
theorem d_Wd_knownOnBoards_15 : decode (kB K_Wd_knownOnBoards) 15 = .ok (.iload_n 1, 1) := by decide +kernel
theorem d_Wd_knownOnBoards_16 : decode (kB K_Wd_knownOnBoards) 16 = .ok (.aload_n 0, 1) := by decide +kernel
theorem d_Wd_knownOnBoards_17 : decode (kB K_Wd_knownOnBoards) 17 = .ok (.getfield 19, 3) := by decide +kernel
theorem d_Wd_knownOnBoards_20 : decode (kB K_Wd_knownOnBoards) 20 = .ok (.iload_n 2, 1) := by decide +kernel
theorem d_Wd_knownOnBoards_21 : decode (kB K_Wd_knownOnBoards) 21 = .ok (.aaload, 1) := by decide +kernel
theorem d_Wd_knownOnBoards_22 : decode (kB K_Wd_knownOnBoards) 22 = .ok (.invokevirtual 90, 3) := by decide +kernel
theorem d_Wd_knownOnBoards_25 : decode (kB K_Wd_knownOnBoards) 25 = .ok (.iadd, 1) := by decide +kernel
theorem d_Wd_knownOnBoards_26 : decode (kB K_Wd_knownOnBoards) 26 = .ok (.istore_n 1, 1) := by decide +kernel
theorem d_Wd_knownOnBoards_27 : decode (kB K_Wd_knownOnBoards) 27 = .ok (.iinc 2 1, 3) := by decide +kernel
theorem d_Wd_knownOnBoards_30 : decode (kB K_Wd_knownOnBoards) 30 = .ok (.goto (-26), 3) := by decide +kernel
theorem d_Wd_knownOnBoards_33 : decode (kB K_Wd_knownOnBoards) 33 = .ok (.iload_n 1, 1) := by decide +kernel
theorem d_Wd_knownOnBoards_34 : decode (kB K_Wd_knownOnBoards) 34 = .ok (.ireturn, 1) := by decide +kernel
def K_Wd_showers : KM := (⟨"ParishBoards$World", "showers", "(I)I"⟩, prog_13_method_11_code, 5, (some (.int)), "ParishBoards$World", ([], []))
theorem d_Wd_showers_0 : decode (kB K_Wd_showers) 0 = .ok (.aload_n 0, 1) := by decide +kernel
theorem d_Wd_showers_1 : decode (kB K_Wd_showers) 1 = .ok (.getfield 11, 3) := by decide +kernel
theorem d_Wd_showers_4 : decode (kB K_Wd_showers) 4 = .ok (.iload_n 1, 1) := by decide +kernel
theorem d_Wd_showers_5 : decode (kB K_Wd_showers) 5 = .ok (.aaload, 1) := by decide +kernel
theorem d_Wd_showers_6 : decode (kB K_Wd_showers) 6 = .ok (.astore_n 2, 1) := by decide +kernel
theorem d_Wd_showers_7 : decode (kB K_Wd_showers) 7 = .ok (.iconst 0, 1) := by decide +kernel
theorem d_Wd_showers_8 : decode (kB K_Wd_showers) 8 = .ok (.istore_n 3, 1) := by decide +kernel
theorem d_Wd_showers_9 : decode (kB K_Wd_showers) 9 = .ok (.iconst 0, 1) := by decide +kernel
theorem d_Wd_showers_10 : decode (kB K_Wd_showers) 10 = .ok (.istore 4, 2) := by decide +kernel
theorem d_Wd_showers_12 : decode (kB K_Wd_showers) 12 = .ok (.iload 4, 2) := by decide +kernel
theorem d_Wd_showers_14 : decode (kB K_Wd_showers) 14 = .ok (.aload_n 0, 1) := by decide +kernel
theorem d_Wd_showers_15 : decode (kB K_Wd_showers) 15 = .ok (.getfield 42, 3) := by decide +kernel
theorem d_Wd_showers_18 : decode (kB K_Wd_showers) 18 = .ok (.getfield 65, 3) := by decide +kernel
theorem d_Wd_showers_21 : decode (kB K_Wd_showers) 21 = .ok (.if_icmp .ge 39, 3) := by decide +kernel
theorem d_Wd_showers_24 : decode (kB K_Wd_showers) 24 = .ok (.iload_n 3, 1) := by decide +kernel
theorem d_Wd_showers_25 : decode (kB K_Wd_showers) 25 = .ok (.aload_n 0, 1) := by decide +kernel
theorem d_Wd_showers_26 : decode (kB K_Wd_showers) 26 = .ok (.getfield 19, 3) := by decide +kernel
theorem d_Wd_showers_29 : decode (kB K_Wd_showers) 29 = .ok (.iload 4, 2) := by decide +kernel
theorem d_Wd_showers_31 : decode (kB K_Wd_showers) 31 = .ok (.aaload, 1) := by decide +kernel
theorem d_Wd_showers_32 : decode (kB K_Wd_showers) 32 = .ok (.aload_n 2, 1) := by decide +kernel
theorem d_Wd_showers_33 : decode (kB K_Wd_showers) 33 = .ok (.getfield 110, 3) := by decide +kernel
theorem d_Wd_showers_36 : decode (kB K_Wd_showers) 36 = .ok (.aload_n 2, 1) := by decide +kernel
theorem d_Wd_showers_37 : decode (kB K_Wd_showers) 37 = .ok (.getfield 107, 3) := by decide +kernel
theorem d_Wd_showers_40 : decode (kB K_Wd_showers) 40 = .ok (.invokevirtual 153, 3) := by decide +kernel
theorem d_Wd_showers_43 : decode (kB K_Wd_showers) 43 = .ok (.iload_n 1, 1) := by decide +kernel
theorem d_Wd_showers_44 : decode (kB K_Wd_showers) 44 = .ok (.if_icmp .ne 7, 3) := by decide +kernel
theorem d_Wd_showers_47 : decode (kB K_Wd_showers) 47 = .ok (.iconst 1, 1) := by decide +kernel
theorem d_Wd_showers_48 : decode (kB K_Wd_showers) 48 = .ok (.goto 4, 3) := by decide +kernel
theorem d_Wd_showers_51 : decode (kB K_Wd_showers) 51 = .ok (.iconst 0, 1) := by decide +kernel
theorem d_Wd_showers_52 : decode (kB K_Wd_showers) 52 = .ok (.iadd, 1) := by decide +kernel
theorem d_Wd_showers_53 : decode (kB K_Wd_showers) 53 = .ok (.istore_n 3, 1) := by decide +kernel
theorem d_Wd_showers_54 : decode (kB K_Wd_showers) 54 = .ok (.iinc 4 1, 3) := by decide +kernel
theorem d_Wd_showers_57 : decode (kB K_Wd_showers) 57 = .ok (.goto (-45), 3) := by decide +kernel
theorem d_Wd_showers_60 : decode (kB K_Wd_showers) 60 = .ok (.iload_n 3, 1) := by decide +kernel
theorem d_Wd_showers_61 : decode (kB K_Wd_showers) 61 = .ok (.ireturn, 1) := by decide +kernel
def K_Wd_roadsFrom : KM := (⟨"ParishBoards$World", "roadsFrom", "(I)I"⟩, prog_13_method_12_code, 4, (some (.int)), "ParishBoards$World", ([], []))
theorem d_Wd_roadsFrom_0 : decode (kB K_Wd_roadsFrom) 0 = .ok (.iconst 0, 1) := by decide +kernel
theorem d_Wd_roadsFrom_1 : decode (kB K_Wd_roadsFrom) 1 = .ok (.istore_n 2, 1) := by decide +kernel
theorem d_Wd_roadsFrom_2 : decode (kB K_Wd_roadsFrom) 2 = .ok (.iconst 0, 1) := by decide +kernel
theorem d_Wd_roadsFrom_3 : decode (kB K_Wd_roadsFrom) 3 = .ok (.istore_n 3, 1) := by decide +kernel
theorem d_Wd_roadsFrom_4 : decode (kB K_Wd_roadsFrom) 4 = .ok (.iload_n 3, 1) := by decide +kernel
theorem d_Wd_roadsFrom_5 : decode (kB K_Wd_roadsFrom) 5 = .ok (.aload_n 0, 1) := by decide +kernel
theorem d_Wd_roadsFrom_6 : decode (kB K_Wd_roadsFrom) 6 = .ok (.getfield 42, 3) := by decide +kernel
theorem d_Wd_roadsFrom_9 : decode (kB K_Wd_roadsFrom) 9 = .ok (.getfield 52, 3) := by decide +kernel
theorem d_Wd_roadsFrom_12 : decode (kB K_Wd_roadsFrom) 12 = .ok (.if_icmp .ge 30, 3) := by decide +kernel
theorem d_Wd_roadsFrom_15 : decode (kB K_Wd_roadsFrom) 15 = .ok (.iload_n 2, 1) := by decide +kernel
theorem d_Wd_roadsFrom_16 : decode (kB K_Wd_roadsFrom) 16 = .ok (.aload_n 0, 1) := by decide +kernel
theorem d_Wd_roadsFrom_17 : decode (kB K_Wd_roadsFrom) 17 = .ok (.getfield 25, 3) := by decide +kernel
theorem d_Wd_roadsFrom_20 : decode (kB K_Wd_roadsFrom) 20 = .ok (.iload_n 3, 1) := by decide +kernel
theorem d_Wd_roadsFrom_21 : decode (kB K_Wd_roadsFrom) 21 = .ok (.aaload, 1) := by decide +kernel
theorem d_Wd_roadsFrom_22 : decode (kB K_Wd_roadsFrom) 22 = .ok (.getfield 129, 3) := by decide +kernel
theorem d_Wd_roadsFrom_25 : decode (kB K_Wd_roadsFrom) 25 = .ok (.iload_n 1, 1) := by decide +kernel
theorem d_Wd_roadsFrom_26 : decode (kB K_Wd_roadsFrom) 26 = .ok (.if_icmp .ne 7, 3) := by decide +kernel
theorem d_Wd_roadsFrom_29 : decode (kB K_Wd_roadsFrom) 29 = .ok (.iconst 1, 1) := by decide +kernel
theorem d_Wd_roadsFrom_30 : decode (kB K_Wd_roadsFrom) 30 = .ok (.goto 4, 3) := by decide +kernel
theorem d_Wd_roadsFrom_33 : decode (kB K_Wd_roadsFrom) 33 = .ok (.iconst 0, 1) := by decide +kernel
theorem d_Wd_roadsFrom_34 : decode (kB K_Wd_roadsFrom) 34 = .ok (.iadd, 1) := by decide +kernel
theorem d_Wd_roadsFrom_35 : decode (kB K_Wd_roadsFrom) 35 = .ok (.istore_n 2, 1) := by decide +kernel
theorem d_Wd_roadsFrom_36 : decode (kB K_Wd_roadsFrom) 36 = .ok (.iinc 3 1, 3) := by decide +kernel
theorem d_Wd_roadsFrom_39 : decode (kB K_Wd_roadsFrom) 39 = .ok (.goto (-35), 3) := by decide +kernel
theorem d_Wd_roadsFrom_42 : decode (kB K_Wd_roadsFrom) 42 = .ok (.iload_n 2, 1) := by decide +kernel
theorem d_Wd_roadsFrom_43 : decode (kB K_Wd_roadsFrom) 43 = .ok (.ireturn, 1) := by decide +kernel
def K_Wd_underWayOnRoads : KM := (⟨"ParishBoards$World", "underWayOnRoads", "()I"⟩, prog_13_method_13_code, 3, (some (.int)), "ParishBoards$World", ([], []))
theorem d_Wd_underWayOnRoads_0 : decode (kB K_Wd_underWayOnRoads) 0 = .ok (.iconst 0, 1) := by decide +kernel
theorem d_Wd_underWayOnRoads_1 : decode (kB K_Wd_underWayOnRoads) 1 = .ok (.istore_n 1, 1) := by decide +kernel
theorem d_Wd_underWayOnRoads_2 : decode (kB K_Wd_underWayOnRoads) 2 = .ok (.iconst 0, 1) := by decide +kernel
theorem d_Wd_underWayOnRoads_3 : decode (kB K_Wd_underWayOnRoads) 3 = .ok (.istore_n 2, 1) := by decide +kernel
theorem d_Wd_underWayOnRoads_4 : decode (kB K_Wd_underWayOnRoads) 4 = .ok (.iload_n 2, 1) := by decide +kernel
theorem d_Wd_underWayOnRoads_5 : decode (kB K_Wd_underWayOnRoads) 5 = .ok (.aload_n 0, 1) := by decide +kernel
theorem d_Wd_underWayOnRoads_6 : decode (kB K_Wd_underWayOnRoads) 6 = .ok (.getfield 42, 3) := by decide +kernel
theorem d_Wd_underWayOnRoads_9 : decode (kB K_Wd_underWayOnRoads) 9 = .ok (.getfield 52, 3) := by decide +kernel
theorem d_Wd_underWayOnRoads_12 : decode (kB K_Wd_underWayOnRoads) 12 = .ok (.if_icmp .ge 22, 3) := by decide +kernel
theorem d_Wd_underWayOnRoads_15 : decode (kB K_Wd_underWayOnRoads) 15 = .ok (.iload_n 1, 1) := by decide +kernel
theorem d_Wd_underWayOnRoads_16 : decode (kB K_Wd_underWayOnRoads) 16 = .ok (.aload_n 0, 1) := by decide +kernel
theorem d_Wd_underWayOnRoads_17 : decode (kB K_Wd_underWayOnRoads) 17 = .ok (.aload_n 0, 1) := by decide +kernel
theorem d_Wd_underWayOnRoads_18 : decode (kB K_Wd_underWayOnRoads) 18 = .ok (.getfield 25, 3) := by decide +kernel
theorem d_Wd_underWayOnRoads_21 : decode (kB K_Wd_underWayOnRoads) 21 = .ok (.iload_n 2, 1) := by decide +kernel
theorem d_Wd_underWayOnRoads_22 : decode (kB K_Wd_underWayOnRoads) 22 = .ok (.aaload, 1) := by decide +kernel
theorem d_Wd_underWayOnRoads_23 : decode (kB K_Wd_underWayOnRoads) 23 = .ok (.invokevirtual 138, 3) := by decide +kernel
theorem d_Wd_underWayOnRoads_26 : decode (kB K_Wd_underWayOnRoads) 26 = .ok (.iadd, 1) := by decide +kernel
theorem d_Wd_underWayOnRoads_27 : decode (kB K_Wd_underWayOnRoads) 27 = .ok (.istore_n 1, 1) := by decide +kernel
theorem d_Wd_underWayOnRoads_28 : decode (kB K_Wd_underWayOnRoads) 28 = .ok (.iinc 2 1, 3) := by decide +kernel
theorem d_Wd_underWayOnRoads_31 : decode (kB K_Wd_underWayOnRoads) 31 = .ok (.goto (-27), 3) := by decide +kernel
theorem d_Wd_underWayOnRoads_34 : decode (kB K_Wd_underWayOnRoads) 34 = .ok (.iload_n 1, 1) := by decide +kernel
theorem d_Wd_underWayOnRoads_35 : decode (kB K_Wd_underWayOnRoads) 35 = .ok (.ireturn, 1) := by decide +kernel
def K_Wd_underWayOn : KM := (⟨"ParishBoards$World", "underWayOn", "(LParishBoards$Road;)I"⟩, prog_13_method_14_code, 4, (some (.int)), "ParishBoards$World", ([], []))
theorem d_Wd_underWayOn_0 : decode (kB K_Wd_underWayOn) 0 = .ok (.iconst 0, 1) := by decide +kernel
theorem d_Wd_underWayOn_1 : decode (kB K_Wd_underWayOn) 1 = .ok (.istore_n 2, 1) := by decide +kernel
theorem d_Wd_underWayOn_2 : decode (kB K_Wd_underWayOn) 2 = .ok (.iconst 0, 1) := by decide +kernel
theorem d_Wd_underWayOn_3 : decode (kB K_Wd_underWayOn) 3 = .ok (.istore_n 3, 1) := by decide +kernel
theorem d_Wd_underWayOn_4 : decode (kB K_Wd_underWayOn) 4 = .ok (.iload_n 3, 1) := by decide +kernel
theorem d_Wd_underWayOn_5 : decode (kB K_Wd_underWayOn) 5 = .ok (.aload_n 0, 1) := by decide +kernel
theorem d_Wd_underWayOn_6 : decode (kB K_Wd_underWayOn) 6 = .ok (.getfield 33, 3) := by decide +kernel
theorem d_Wd_underWayOn_9 : decode (kB K_Wd_underWayOn) 9 = .ok (.if_icmp .ge 30, 3) := by decide +kernel
theorem d_Wd_underWayOn_12 : decode (kB K_Wd_underWayOn) 12 = .ok (.iload_n 2, 1) := by decide +kernel
theorem d_Wd_underWayOn_13 : decode (kB K_Wd_underWayOn) 13 = .ok (.aload_n 1, 1) := by decide +kernel
theorem d_Wd_underWayOn_14 : decode (kB K_Wd_underWayOn) 14 = .ok (.getfield 157, 3) := by decide +kernel
theorem d_Wd_underWayOn_17 : decode (kB K_Wd_underWayOn) 17 = .ok (.iload_n 3, 1) := by decide +kernel
theorem d_Wd_underWayOn_18 : decode (kB K_Wd_underWayOn) 18 = .ok (.iaload, 1) := by decide +kernel
theorem d_Wd_underWayOn_19 : decode (kB K_Wd_underWayOn) 19 = .ok (.aload_n 0, 1) := by decide +kernel
theorem d_Wd_underWayOn_20 : decode (kB K_Wd_underWayOn) 20 = .ok (.getfield 29, 3) := by decide +kernel
theorem d_Wd_underWayOn_23 : decode (kB K_Wd_underWayOn) 23 = .ok (.if_icmp .lt 7, 3) := by decide +kernel
theorem d_Wd_underWayOn_26 : decode (kB K_Wd_underWayOn) 26 = .ok (.iconst 1, 1) := by decide +kernel
theorem d_Wd_underWayOn_27 : decode (kB K_Wd_underWayOn) 27 = .ok (.goto 4, 3) := by decide +kernel
theorem d_Wd_underWayOn_30 : decode (kB K_Wd_underWayOn) 30 = .ok (.iconst 0, 1) := by decide +kernel
theorem d_Wd_underWayOn_31 : decode (kB K_Wd_underWayOn) 31 = .ok (.iadd, 1) := by decide +kernel
theorem d_Wd_underWayOn_32 : decode (kB K_Wd_underWayOn) 32 = .ok (.istore_n 2, 1) := by decide +kernel
theorem d_Wd_underWayOn_33 : decode (kB K_Wd_underWayOn) 33 = .ok (.iinc 3 1, 3) := by decide +kernel
theorem d_Wd_underWayOn_36 : decode (kB K_Wd_underWayOn) 36 = .ok (.goto (-32), 3) := by decide +kernel
theorem d_Wd_underWayOn_39 : decode (kB K_Wd_underWayOn) 39 = .ok (.iload_n 2, 1) := by decide +kernel
theorem d_Wd_underWayOn_40 : decode (kB K_Wd_underWayOn) 40 = .ok (.ireturn, 1) := by decide +kernel
def K_Wd_waitingAtBoards : KM := (⟨"ParishBoards$World", "waitingAtBoards", "()I"⟩, prog_13_method_15_code, 3, (some (.int)), "ParishBoards$World", ([], []))
theorem d_Wd_waitingAtBoards_0 : decode (kB K_Wd_waitingAtBoards) 0 = .ok (.iconst 0, 1) := by decide +kernel
theorem d_Wd_waitingAtBoards_1 : decode (kB K_Wd_waitingAtBoards) 1 = .ok (.istore_n 1, 1) := by decide +kernel
theorem d_Wd_waitingAtBoards_2 : decode (kB K_Wd_waitingAtBoards) 2 = .ok (.iconst 0, 1) := by decide +kernel
theorem d_Wd_waitingAtBoards_3 : decode (kB K_Wd_waitingAtBoards) 3 = .ok (.istore_n 2, 1) := by decide +kernel
theorem d_Wd_waitingAtBoards_4 : decode (kB K_Wd_waitingAtBoards) 4 = .ok (.iload_n 2, 1) := by decide +kernel
theorem d_Wd_waitingAtBoards_5 : decode (kB K_Wd_waitingAtBoards) 5 = .ok (.aload_n 0, 1) := by decide +kernel
theorem d_Wd_waitingAtBoards_6 : decode (kB K_Wd_waitingAtBoards) 6 = .ok (.getfield 42, 3) := by decide +kernel
theorem d_Wd_waitingAtBoards_9 : decode (kB K_Wd_waitingAtBoards) 9 = .ok (.getfield 65, 3) := by decide +kernel
theorem d_Wd_waitingAtBoards_12 : decode (kB K_Wd_waitingAtBoards) 12 = .ok (.if_icmp .ge 21, 3) := by decide +kernel
theorem d_Wd_waitingAtBoards_15 : decode (kB K_Wd_waitingAtBoards) 15 = .ok (.iload_n 1, 1) := by decide +kernel
theorem d_Wd_waitingAtBoards_16 : decode (kB K_Wd_waitingAtBoards) 16 = .ok (.aload_n 0, 1) := by decide +kernel
theorem d_Wd_waitingAtBoards_17 : decode (kB K_Wd_waitingAtBoards) 17 = .ok (.getfield 19, 3) := by decide +kernel
theorem d_Wd_waitingAtBoards_20 : decode (kB K_Wd_waitingAtBoards) 20 = .ok (.iload_n 2, 1) := by decide +kernel
theorem d_Wd_waitingAtBoards_21 : decode (kB K_Wd_waitingAtBoards) 21 = .ok (.aaload, 1) := by decide +kernel
theorem d_Wd_waitingAtBoards_22 : decode (kB K_Wd_waitingAtBoards) 22 = .ok (.getfield 93, 3) := by decide +kernel
theorem d_Wd_waitingAtBoards_25 : decode (kB K_Wd_waitingAtBoards) 25 = .ok (.iadd, 1) := by decide +kernel
theorem d_Wd_waitingAtBoards_26 : decode (kB K_Wd_waitingAtBoards) 26 = .ok (.istore_n 1, 1) := by decide +kernel
theorem d_Wd_waitingAtBoards_27 : decode (kB K_Wd_waitingAtBoards) 27 = .ok (.iinc 2 1, 3) := by decide +kernel
theorem d_Wd_waitingAtBoards_30 : decode (kB K_Wd_waitingAtBoards) 30 = .ok (.goto (-26), 3) := by decide +kernel
theorem d_Wd_waitingAtBoards_33 : decode (kB K_Wd_waitingAtBoards) 33 = .ok (.iload_n 1, 1) := by decide +kernel
theorem d_Wd_waitingAtBoards_34 : decode (kB K_Wd_waitingAtBoards) 34 = .ok (.ireturn, 1) := by decide +kernel
