/-! methods and their instructions -/
def K_PB_setDays : KM := (⟨"ParishBoards", "setDays", "(II)I"⟩, prog_1_method_18_code, 4, (some (.int)), "ParishBoards", [(8, 2), (29, 1)])
theorem d_PB_setDays_0 : decode (kB K_PB_setDays) 0 = .ok (.aload_n 0, 1) := by decide +kernel
theorem d_PB_setDays_1 : decode (kB K_PB_setDays) 1 = .ok (.iload_n 1, 1) := by decide +kernel
theorem d_PB_setDays_2 : decode (kB K_PB_setDays) 2 = .ok (.invokevirtual 171, 3) := by decide +kernel
theorem d_PB_setDays_5 : decode (kB K_PB_setDays) 5 = .ok (.ifCond .ne 13, 3) := by decide +kernel
theorem d_PB_setDays_8 : decode (kB K_PB_setDays) 8 = .ok (.new 105, 3) := by decide +kernel
theorem d_PB_setDays_11 : decode (kB K_PB_setDays) 11 = .ok (.dup, 1) := by decide +kernel
theorem d_PB_setDays_12 : decode (kB K_PB_setDays) 12 = .ok (.ldc 214, 2) := by decide +kernel
theorem d_PB_setDays_14 : decode (kB K_PB_setDays) 14 = .ok (.invokespecial 109, 3) := by decide +kernel
theorem d_PB_setDays_17 : decode (kB K_PB_setDays) 17 = .ok (.athrow, 1) := by decide +kernel
theorem d_PB_setDays_18 : decode (kB K_PB_setDays) 18 = .ok (.iload_n 2, 1) := by decide +kernel
theorem d_PB_setDays_19 : decode (kB K_PB_setDays) 19 = .ok (.iconst 1, 1) := by decide +kernel
theorem d_PB_setDays_20 : decode (kB K_PB_setDays) 20 = .ok (.if_icmp .lt 9, 3) := by decide +kernel
theorem d_PB_setDays_23 : decode (kB K_PB_setDays) 23 = .ok (.iload_n 2, 1) := by decide +kernel
theorem d_PB_setDays_24 : decode (kB K_PB_setDays) 24 = .ok (.bipush 9, 2) := by decide +kernel
theorem d_PB_setDays_26 : decode (kB K_PB_setDays) 26 = .ok (.if_icmp .le 13, 3) := by decide +kernel
theorem d_PB_setDays_29 : decode (kB K_PB_setDays) 29 = .ok (.new 76, 3) := by decide +kernel
theorem d_PB_setDays_32 : decode (kB K_PB_setDays) 32 = .ok (.dup, 1) := by decide +kernel
theorem d_PB_setDays_33 : decode (kB K_PB_setDays) 33 = .ok (.ldc 219, 2) := by decide +kernel
theorem d_PB_setDays_35 : decode (kB K_PB_setDays) 35 = .ok (.invokespecial 80, 3) := by decide +kernel
theorem d_PB_setDays_38 : decode (kB K_PB_setDays) 38 = .ok (.athrow, 1) := by decide +kernel
theorem d_PB_setDays_39 : decode (kB K_PB_setDays) 39 = .ok (.aload_n 0, 1) := by decide +kernel
theorem d_PB_setDays_40 : decode (kB K_PB_setDays) 40 = .ok (.getfield 58, 3) := by decide +kernel
theorem d_PB_setDays_43 : decode (kB K_PB_setDays) 43 = .ok (.getfield 221, 3) := by decide +kernel
theorem d_PB_setDays_46 : decode (kB K_PB_setDays) 46 = .ok (.iload_n 1, 1) := by decide +kernel
theorem d_PB_setDays_47 : decode (kB K_PB_setDays) 47 = .ok (.aaload, 1) := by decide +kernel
theorem d_PB_setDays_48 : decode (kB K_PB_setDays) 48 = .ok (.getfield 225, 3) := by decide +kernel
theorem d_PB_setDays_51 : decode (kB K_PB_setDays) 51 = .ok (.istore_n 3, 1) := by decide +kernel
theorem d_PB_setDays_52 : decode (kB K_PB_setDays) 52 = .ok (.aload_n 0, 1) := by decide +kernel
theorem d_PB_setDays_53 : decode (kB K_PB_setDays) 53 = .ok (.getfield 58, 3) := by decide +kernel
theorem d_PB_setDays_56 : decode (kB K_PB_setDays) 56 = .ok (.getfield 221, 3) := by decide +kernel
theorem d_PB_setDays_59 : decode (kB K_PB_setDays) 59 = .ok (.iload_n 1, 1) := by decide +kernel
theorem d_PB_setDays_60 : decode (kB K_PB_setDays) 60 = .ok (.aaload, 1) := by decide +kernel
theorem d_PB_setDays_61 : decode (kB K_PB_setDays) 61 = .ok (.iload_n 2, 1) := by decide +kernel
theorem d_PB_setDays_62 : decode (kB K_PB_setDays) 62 = .ok (.putfield 225, 3) := by decide +kernel
theorem d_PB_setDays_65 : decode (kB K_PB_setDays) 65 = .ok (.iload_n 3, 1) := by decide +kernel
theorem d_PB_setDays_66 : decode (kB K_PB_setDays) 66 = .ok (.ireturn, 1) := by decide +kernel
def K_PB_pass : KM := (⟨"ParishBoards", "pass", "(I)I"⟩, prog_1_method_19_code, 3, (some (.int)), "ParishBoards", [(11, 1)])
theorem d_PB_pass_0 : decode (kB K_PB_pass) 0 = .ok (.iload_n 1, 1) := by decide +kernel
theorem d_PB_pass_1 : decode (kB K_PB_pass) 1 = .ok (.iconst 1, 1) := by decide +kernel
theorem d_PB_pass_2 : decode (kB K_PB_pass) 2 = .ok (.if_icmp .lt 9, 3) := by decide +kernel
theorem d_PB_pass_5 : decode (kB K_PB_pass) 5 = .ok (.iload_n 1, 1) := by decide +kernel
theorem d_PB_pass_6 : decode (kB K_PB_pass) 6 = .ok (.bipush 60, 2) := by decide +kernel
theorem d_PB_pass_8 : decode (kB K_PB_pass) 8 = .ok (.if_icmp .le 13, 3) := by decide +kernel
theorem d_PB_pass_11 : decode (kB K_PB_pass) 11 = .ok (.new 76, 3) := by decide +kernel
theorem d_PB_pass_14 : decode (kB K_PB_pass) 14 = .ok (.dup, 1) := by decide +kernel
theorem d_PB_pass_15 : decode (kB K_PB_pass) 15 = .ok (.ldc 219, 2) := by decide +kernel
theorem d_PB_pass_17 : decode (kB K_PB_pass) 17 = .ok (.invokespecial 80, 3) := by decide +kernel
theorem d_PB_pass_20 : decode (kB K_PB_pass) 20 = .ok (.athrow, 1) := by decide +kernel
theorem d_PB_pass_21 : decode (kB K_PB_pass) 21 = .ok (.aload_n 0, 1) := by decide +kernel
theorem d_PB_pass_22 : decode (kB K_PB_pass) 22 = .ok (.getfield 58, 3) := by decide +kernel
theorem d_PB_pass_25 : decode (kB K_PB_pass) 25 = .ok (.getfield 230, 3) := by decide +kernel
theorem d_PB_pass_28 : decode (kB K_PB_pass) 28 = .ok (.istore_n 2, 1) := by decide +kernel
theorem d_PB_pass_29 : decode (kB K_PB_pass) 29 = .ok (.aload_n 0, 1) := by decide +kernel
theorem d_PB_pass_30 : decode (kB K_PB_pass) 30 = .ok (.getfield 58, 3) := by decide +kernel
theorem d_PB_pass_33 : decode (kB K_PB_pass) 33 = .ok (.iload_n 1, 1) := by decide +kernel
theorem d_PB_pass_34 : decode (kB K_PB_pass) 34 = .ok (.invokevirtual 233, 3) := by decide +kernel
theorem d_PB_pass_37 : decode (kB K_PB_pass) 37 = .ok (.aload_n 0, 1) := by decide +kernel
theorem d_PB_pass_38 : decode (kB K_PB_pass) 38 = .ok (.getfield 58, 3) := by decide +kernel
theorem d_PB_pass_41 : decode (kB K_PB_pass) 41 = .ok (.getfield 230, 3) := by decide +kernel
theorem d_PB_pass_44 : decode (kB K_PB_pass) 44 = .ok (.iload_n 2, 1) := by decide +kernel
theorem d_PB_pass_45 : decode (kB K_PB_pass) 45 = .ok (.isub, 1) := by decide +kernel
theorem d_PB_pass_46 : decode (kB K_PB_pass) 46 = .ok (.ireturn, 1) := by decide +kernel
def K_PB_foresee : KM := (⟨"ParishBoards", "foresee", "(II)I"⟩, prog_1_method_20_code, 3, (some (.int)), "ParishBoards", [(11, 1), (32, 2)])
theorem d_PB_foresee_0 : decode (kB K_PB_foresee) 0 = .ok (.iload_n 1, 1) := by decide +kernel
theorem d_PB_foresee_1 : decode (kB K_PB_foresee) 1 = .ok (.iconst 1, 1) := by decide +kernel
theorem d_PB_foresee_2 : decode (kB K_PB_foresee) 2 = .ok (.if_icmp .lt 9, 3) := by decide +kernel
theorem d_PB_foresee_5 : decode (kB K_PB_foresee) 5 = .ok (.iload_n 1, 1) := by decide +kernel
theorem d_PB_foresee_6 : decode (kB K_PB_foresee) 6 = .ok (.bipush 60, 2) := by decide +kernel
theorem d_PB_foresee_8 : decode (kB K_PB_foresee) 8 = .ok (.if_icmp .le 13, 3) := by decide +kernel
theorem d_PB_foresee_11 : decode (kB K_PB_foresee) 11 = .ok (.new 76, 3) := by decide +kernel
theorem d_PB_foresee_14 : decode (kB K_PB_foresee) 14 = .ok (.dup, 1) := by decide +kernel
theorem d_PB_foresee_15 : decode (kB K_PB_foresee) 15 = .ok (.ldc 219, 2) := by decide +kernel
theorem d_PB_foresee_17 : decode (kB K_PB_foresee) 17 = .ok (.invokespecial 80, 3) := by decide +kernel
theorem d_PB_foresee_20 : decode (kB K_PB_foresee) 20 = .ok (.athrow, 1) := by decide +kernel
theorem d_PB_foresee_21 : decode (kB K_PB_foresee) 21 = .ok (.iload_n 2, 1) := by decide +kernel
theorem d_PB_foresee_22 : decode (kB K_PB_foresee) 22 = .ok (.iconst 5, 1) := by decide +kernel
theorem d_PB_foresee_23 : decode (kB K_PB_foresee) 23 = .ok (.if_icmp .lt 9, 3) := by decide +kernel
theorem d_PB_foresee_26 : decode (kB K_PB_foresee) 26 = .ok (.iload_n 2, 1) := by decide +kernel
theorem d_PB_foresee_27 : decode (kB K_PB_foresee) 27 = .ok (.bipush 11, 2) := by decide +kernel
theorem d_PB_foresee_29 : decode (kB K_PB_foresee) 29 = .ok (.if_icmp .le 13, 3) := by decide +kernel
theorem d_PB_foresee_32 : decode (kB K_PB_foresee) 32 = .ok (.new 105, 3) := by decide +kernel
theorem d_PB_foresee_35 : decode (kB K_PB_foresee) 35 = .ok (.dup, 1) := by decide +kernel
theorem d_PB_foresee_36 : decode (kB K_PB_foresee) 36 = .ok (.ldc 236, 2) := by decide +kernel
theorem d_PB_foresee_38 : decode (kB K_PB_foresee) 38 = .ok (.invokespecial 109, 3) := by decide +kernel
theorem d_PB_foresee_41 : decode (kB K_PB_foresee) 41 = .ok (.athrow, 1) := by decide +kernel
theorem d_PB_foresee_42 : decode (kB K_PB_foresee) 42 = .ok (.aload_n 0, 1) := by decide +kernel
theorem d_PB_foresee_43 : decode (kB K_PB_foresee) 43 = .ok (.getfield 62, 3) := by decide +kernel
theorem d_PB_foresee_46 : decode (kB K_PB_foresee) 46 = .ok (.aload_n 0, 1) := by decide +kernel
theorem d_PB_foresee_47 : decode (kB K_PB_foresee) 47 = .ok (.getfield 58, 3) := by decide +kernel
theorem d_PB_foresee_50 : decode (kB K_PB_foresee) 50 = .ok (.invokevirtual 238, 3) := by decide +kernel
theorem d_PB_foresee_53 : decode (kB K_PB_foresee) 53 = .ok (.aload_n 0, 1) := by decide +kernel
theorem d_PB_foresee_54 : decode (kB K_PB_foresee) 54 = .ok (.getfield 62, 3) := by decide +kernel
theorem d_PB_foresee_57 : decode (kB K_PB_foresee) 57 = .ok (.iload_n 1, 1) := by decide +kernel
theorem d_PB_foresee_58 : decode (kB K_PB_foresee) 58 = .ok (.invokevirtual 233, 3) := by decide +kernel
theorem d_PB_foresee_61 : decode (kB K_PB_foresee) 61 = .ok (.aload_n 0, 1) := by decide +kernel
theorem d_PB_foresee_62 : decode (kB K_PB_foresee) 62 = .ok (.getfield 62, 3) := by decide +kernel
theorem d_PB_foresee_65 : decode (kB K_PB_foresee) 65 = .ok (.iload_n 2, 1) := by decide +kernel
theorem d_PB_foresee_66 : decode (kB K_PB_foresee) 66 = .ok (.invokevirtual 242, 3) := by decide +kernel
theorem d_PB_foresee_69 : decode (kB K_PB_foresee) 69 = .ok (.ireturn, 1) := by decide +kernel
def K_PB_until : KM := (⟨"ParishBoards", "until", "(II)I"⟩, prog_1_method_21_code, 4, (some (.int)), "ParishBoards", [(16, 2)])
theorem d_PB_until_0 : decode (kB K_PB_until) 0 = .ok (.aload_n 0, 1) := by decide +kernel
theorem d_PB_until_1 : decode (kB K_PB_until) 1 = .ok (.iload_n 1, 1) := by decide +kernel
theorem d_PB_until_2 : decode (kB K_PB_until) 2 = .ok (.invokevirtual 113, 3) := by decide +kernel
theorem d_PB_until_5 : decode (kB K_PB_until) 5 = .ok (.ifCond .eq 11, 3) := by decide +kernel
theorem d_PB_until_8 : decode (kB K_PB_until) 8 = .ok (.aload_n 0, 1) := by decide +kernel
theorem d_PB_until_9 : decode (kB K_PB_until) 9 = .ok (.iload_n 2, 1) := by decide +kernel
theorem d_PB_until_10 : decode (kB K_PB_until) 10 = .ok (.invokevirtual 135, 3) := by decide +kernel
theorem d_PB_until_13 : decode (kB K_PB_until) 13 = .ok (.ifCond .ne 13, 3) := by decide +kernel
theorem d_PB_until_16 : decode (kB K_PB_until) 16 = .ok (.new 105, 3) := by decide +kernel
theorem d_PB_until_19 : decode (kB K_PB_until) 19 = .ok (.dup, 1) := by decide +kernel
theorem d_PB_until_20 : decode (kB K_PB_until) 20 = .ok (.ldc 245, 2) := by decide +kernel
theorem d_PB_until_22 : decode (kB K_PB_until) 22 = .ok (.invokespecial 109, 3) := by decide +kernel
theorem d_PB_until_25 : decode (kB K_PB_until) 25 = .ok (.athrow, 1) := by decide +kernel
theorem d_PB_until_26 : decode (kB K_PB_until) 26 = .ok (.aload_n 0, 1) := by decide +kernel
theorem d_PB_until_27 : decode (kB K_PB_until) 27 = .ok (.getfield 62, 3) := by decide +kernel
theorem d_PB_until_30 : decode (kB K_PB_until) 30 = .ok (.aload_n 0, 1) := by decide +kernel
theorem d_PB_until_31 : decode (kB K_PB_until) 31 = .ok (.getfield 58, 3) := by decide +kernel
theorem d_PB_until_34 : decode (kB K_PB_until) 34 = .ok (.invokevirtual 238, 3) := by decide +kernel
theorem d_PB_until_37 : decode (kB K_PB_until) 37 = .ok (.iconst 0, 1) := by decide +kernel
theorem d_PB_until_38 : decode (kB K_PB_until) 38 = .ok (.istore_n 3, 1) := by decide +kernel
theorem d_PB_until_39 : decode (kB K_PB_until) 39 = .ok (.iload_n 3, 1) := by decide +kernel
theorem d_PB_until_40 : decode (kB K_PB_until) 40 = .ok (.bipush 60, 2) := by decide +kernel
theorem d_PB_until_42 : decode (kB K_PB_until) 42 = .ok (.if_icmp .gt 31, 3) := by decide +kernel
theorem d_PB_until_45 : decode (kB K_PB_until) 45 = .ok (.aload_n 0, 1) := by decide +kernel
theorem d_PB_until_46 : decode (kB K_PB_until) 46 = .ok (.getfield 62, 3) := by decide +kernel
theorem d_PB_until_49 : decode (kB K_PB_until) 49 = .ok (.iload_n 1, 1) := by decide +kernel
theorem d_PB_until_50 : decode (kB K_PB_until) 50 = .ok (.iload_n 2, 1) := by decide +kernel
theorem d_PB_until_51 : decode (kB K_PB_until) 51 = .ok (.invokevirtual 247, 3) := by decide +kernel
theorem d_PB_until_54 : decode (kB K_PB_until) 54 = .ok (.ifCond .eq 5, 3) := by decide +kernel
theorem d_PB_until_57 : decode (kB K_PB_until) 57 = .ok (.iload_n 3, 1) := by decide +kernel
theorem d_PB_until_58 : decode (kB K_PB_until) 58 = .ok (.ireturn, 1) := by decide +kernel
theorem d_PB_until_59 : decode (kB K_PB_until) 59 = .ok (.aload_n 0, 1) := by decide +kernel
theorem d_PB_until_60 : decode (kB K_PB_until) 60 = .ok (.getfield 62, 3) := by decide +kernel
theorem d_PB_until_63 : decode (kB K_PB_until) 63 = .ok (.iconst 1, 1) := by decide +kernel
theorem d_PB_until_64 : decode (kB K_PB_until) 64 = .ok (.invokevirtual 233, 3) := by decide +kernel
theorem d_PB_until_67 : decode (kB K_PB_until) 67 = .ok (.iinc 3 1, 3) := by decide +kernel
theorem d_PB_until_70 : decode (kB K_PB_until) 70 = .ok (.goto (-31), 3) := by decide +kernel
theorem d_PB_until_73 : decode (kB K_PB_until) 73 = .ok (.iconst (-1), 1) := by decide +kernel
theorem d_PB_until_74 : decode (kB K_PB_until) 74 = .ok (.ireturn, 1) := by decide +kernel
def K_PB_alike : KM := (⟨"ParishBoards", "alike", "()Z"⟩, prog_1_method_22_code, 2, (some (.boolean)), "ParishBoards", [])
theorem d_PB_alike_0 : decode (kB K_PB_alike) 0 = .ok (.iconst 1, 1) := by decide +kernel
theorem d_PB_alike_1 : decode (kB K_PB_alike) 1 = .ok (.istore_n 1, 1) := by decide +kernel
theorem d_PB_alike_2 : decode (kB K_PB_alike) 2 = .ok (.iload_n 1, 1) := by decide +kernel
theorem d_PB_alike_3 : decode (kB K_PB_alike) 3 = .ok (.aload_n 0, 1) := by decide +kernel
theorem d_PB_alike_4 : decode (kB K_PB_alike) 4 = .ok (.getfield 23, 3) := by decide +kernel
theorem d_PB_alike_7 : decode (kB K_PB_alike) 7 = .ok (.getfield 250, 3) := by decide +kernel
theorem d_PB_alike_10 : decode (kB K_PB_alike) 10 = .ok (.if_icmp .ge 35, 3) := by decide +kernel
theorem d_PB_alike_13 : decode (kB K_PB_alike) 13 = .ok (.aload_n 0, 1) := by decide +kernel
theorem d_PB_alike_14 : decode (kB K_PB_alike) 14 = .ok (.getfield 58, 3) := by decide +kernel
theorem d_PB_alike_17 : decode (kB K_PB_alike) 17 = .ok (.getfield 125, 3) := by decide +kernel
theorem d_PB_alike_20 : decode (kB K_PB_alike) 20 = .ok (.iload_n 1, 1) := by decide +kernel
theorem d_PB_alike_21 : decode (kB K_PB_alike) 21 = .ok (.aaload, 1) := by decide +kernel
theorem d_PB_alike_22 : decode (kB K_PB_alike) 22 = .ok (.aload_n 0, 1) := by decide +kernel
theorem d_PB_alike_23 : decode (kB K_PB_alike) 23 = .ok (.getfield 58, 3) := by decide +kernel
theorem d_PB_alike_26 : decode (kB K_PB_alike) 26 = .ok (.getfield 125, 3) := by decide +kernel
theorem d_PB_alike_29 : decode (kB K_PB_alike) 29 = .ok (.iconst 0, 1) := by decide +kernel
theorem d_PB_alike_30 : decode (kB K_PB_alike) 30 = .ok (.aaload, 1) := by decide +kernel
theorem d_PB_alike_31 : decode (kB K_PB_alike) 31 = .ok (.invokevirtual 253, 3) := by decide +kernel
theorem d_PB_alike_34 : decode (kB K_PB_alike) 34 = .ok (.ifCond .ne 5, 3) := by decide +kernel
theorem d_PB_alike_37 : decode (kB K_PB_alike) 37 = .ok (.iconst 0, 1) := by decide +kernel
theorem d_PB_alike_38 : decode (kB K_PB_alike) 38 = .ok (.ireturn, 1) := by decide +kernel
theorem d_PB_alike_39 : decode (kB K_PB_alike) 39 = .ok (.iinc 1 1, 3) := by decide +kernel
theorem d_PB_alike_42 : decode (kB K_PB_alike) 42 = .ok (.goto (-40), 3) := by decide +kernel
theorem d_PB_alike_45 : decode (kB K_PB_alike) 45 = .ok (.iconst 1, 1) := by decide +kernel
theorem d_PB_alike_46 : decode (kB K_PB_alike) 46 = .ok (.ireturn, 1) := by decide +kernel
def K_PB_missed : KM := (⟨"ParishBoards", "missed", "()I"⟩, prog_1_method_23_code, 2, (some (.int)), "ParishBoards", [])
theorem d_PB_missed_0 : decode (kB K_PB_missed) 0 = .ok (.iconst 0, 1) := by decide +kernel
theorem d_PB_missed_1 : decode (kB K_PB_missed) 1 = .ok (.istore_n 1, 1) := by decide +kernel
theorem d_PB_missed_2 : decode (kB K_PB_missed) 2 = .ok (.iload_n 1, 1) := by decide +kernel
theorem d_PB_missed_3 : decode (kB K_PB_missed) 3 = .ok (.aload_n 0, 1) := by decide +kernel
theorem d_PB_missed_4 : decode (kB K_PB_missed) 4 = .ok (.getfield 58, 3) := by decide +kernel
theorem d_PB_missed_7 : decode (kB K_PB_missed) 7 = .ok (.getfield 257, 3) := by decide +kernel
theorem d_PB_missed_10 : decode (kB K_PB_missed) 10 = .ok (.if_icmp .ge 29, 3) := by decide +kernel
theorem d_PB_missed_13 : decode (kB K_PB_missed) 13 = .ok (.aload_n 0, 1) := by decide +kernel
theorem d_PB_missed_14 : decode (kB K_PB_missed) 14 = .ok (.getfield 58, 3) := by decide +kernel
theorem d_PB_missed_17 : decode (kB K_PB_missed) 17 = .ok (.iload_n 1, 1) := by decide +kernel
theorem d_PB_missed_18 : decode (kB K_PB_missed) 18 = .ok (.invokevirtual 260, 3) := by decide +kernel
theorem d_PB_missed_21 : decode (kB K_PB_missed) 21 = .ok (.aload_n 0, 1) := by decide +kernel
theorem d_PB_missed_22 : decode (kB K_PB_missed) 22 = .ok (.getfield 23, 3) := by decide +kernel
theorem d_PB_missed_25 : decode (kB K_PB_missed) 25 = .ok (.getfield 250, 3) := by decide +kernel
theorem d_PB_missed_28 : decode (kB K_PB_missed) 28 = .ok (.if_icmp .ge 5, 3) := by decide +kernel
theorem d_PB_missed_31 : decode (kB K_PB_missed) 31 = .ok (.iload_n 1, 1) := by decide +kernel
theorem d_PB_missed_32 : decode (kB K_PB_missed) 32 = .ok (.ireturn, 1) := by decide +kernel
theorem d_PB_missed_33 : decode (kB K_PB_missed) 33 = .ok (.iinc 1 1, 3) := by decide +kernel
theorem d_PB_missed_36 : decode (kB K_PB_missed) 36 = .ok (.goto (-34), 3) := by decide +kernel
theorem d_PB_missed_39 : decode (kB K_PB_missed) 39 = .ok (.iconst (-1), 1) := by decide +kernel
theorem d_PB_missed_40 : decode (kB K_PB_missed) 40 = .ok (.ireturn, 1) := by decide +kernel
def K_PB_advise : KM := (⟨"ParishBoards", "advise", "(I)I"⟩, prog_1_method_24_code, 6, (some (.int)), "ParishBoards", [(11, 1)])
theorem d_PB_advise_0 : decode (kB K_PB_advise) 0 = .ok (.iload_n 1, 1) := by decide +kernel
theorem d_PB_advise_1 : decode (kB K_PB_advise) 1 = .ok (.iconst 1, 1) := by decide +kernel
theorem d_PB_advise_2 : decode (kB K_PB_advise) 2 = .ok (.if_icmp .lt 9, 3) := by decide +kernel
theorem d_PB_advise_5 : decode (kB K_PB_advise) 5 = .ok (.iload_n 1, 1) := by decide +kernel
theorem d_PB_advise_6 : decode (kB K_PB_advise) 6 = .ok (.bipush 30, 2) := by decide +kernel
theorem d_PB_advise_8 : decode (kB K_PB_advise) 8 = .ok (.if_icmp .le 13, 3) := by decide +kernel
theorem d_PB_advise_11 : decode (kB K_PB_advise) 11 = .ok (.new 76, 3) := by decide +kernel
theorem d_PB_advise_14 : decode (kB K_PB_advise) 14 = .ok (.dup, 1) := by decide +kernel
theorem d_PB_advise_15 : decode (kB K_PB_advise) 15 = .ok (.ldc 219, 2) := by decide +kernel
theorem d_PB_advise_17 : decode (kB K_PB_advise) 17 = .ok (.invokespecial 80, 3) := by decide +kernel
theorem d_PB_advise_20 : decode (kB K_PB_advise) 20 = .ok (.athrow, 1) := by decide +kernel
theorem d_PB_advise_21 : decode (kB K_PB_advise) 21 = .ok (.iconst (-1), 1) := by decide +kernel
theorem d_PB_advise_22 : decode (kB K_PB_advise) 22 = .ok (.istore_n 2, 1) := by decide +kernel
theorem d_PB_advise_23 : decode (kB K_PB_advise) 23 = .ok (.iconst (-1), 1) := by decide +kernel
theorem d_PB_advise_24 : decode (kB K_PB_advise) 24 = .ok (.istore_n 3, 1) := by decide +kernel
theorem d_PB_advise_25 : decode (kB K_PB_advise) 25 = .ok (.iconst (-1), 1) := by decide +kernel
theorem d_PB_advise_26 : decode (kB K_PB_advise) 26 = .ok (.istore 4, 2) := by decide +kernel
theorem d_PB_advise_28 : decode (kB K_PB_advise) 28 = .ok (.iload 4, 2) := by decide +kernel
theorem d_PB_advise_30 : decode (kB K_PB_advise) 30 = .ok (.aload_n 0, 1) := by decide +kernel
theorem d_PB_advise_31 : decode (kB K_PB_advise) 31 = .ok (.getfield 23, 3) := by decide +kernel
theorem d_PB_advise_34 : decode (kB K_PB_advise) 34 = .ok (.getfield 263, 3) := by decide +kernel
theorem d_PB_advise_37 : decode (kB K_PB_advise) 37 = .ok (.if_icmp .ge 65, 3) := by decide +kernel
theorem d_PB_advise_40 : decode (kB K_PB_advise) 40 = .ok (.aload_n 0, 1) := by decide +kernel
theorem d_PB_advise_41 : decode (kB K_PB_advise) 41 = .ok (.getfield 62, 3) := by decide +kernel
theorem d_PB_advise_44 : decode (kB K_PB_advise) 44 = .ok (.aload_n 0, 1) := by decide +kernel
theorem d_PB_advise_45 : decode (kB K_PB_advise) 45 = .ok (.getfield 58, 3) := by decide +kernel
theorem d_PB_advise_48 : decode (kB K_PB_advise) 48 = .ok (.invokevirtual 238, 3) := by decide +kernel
theorem d_PB_advise_51 : decode (kB K_PB_advise) 51 = .ok (.iload 4, 2) := by decide +kernel
theorem d_PB_advise_53 : decode (kB K_PB_advise) 53 = .ok (.iconst (-1), 1) := by decide +kernel
theorem d_PB_advise_54 : decode (kB K_PB_advise) 54 = .ok (.if_icmp .eq 13, 3) := by decide +kernel
theorem d_PB_advise_57 : decode (kB K_PB_advise) 57 = .ok (.aload_n 0, 1) := by decide +kernel
theorem d_PB_advise_58 : decode (kB K_PB_advise) 58 = .ok (.getfield 62, 3) := by decide +kernel
theorem d_PB_advise_61 : decode (kB K_PB_advise) 61 = .ok (.iload 4, 2) := by decide +kernel
theorem d_PB_advise_63 : decode (kB K_PB_advise) 63 = .ok (.invokevirtual 216, 3) := by decide +kernel
theorem d_PB_advise_66 : decode (kB K_PB_advise) 66 = .ok (.pop, 1) := by decide +kernel
theorem d_PB_advise_67 : decode (kB K_PB_advise) 67 = .ok (.aload_n 0, 1) := by decide +kernel
theorem d_PB_advise_68 : decode (kB K_PB_advise) 68 = .ok (.getfield 62, 3) := by decide +kernel
theorem d_PB_advise_71 : decode (kB K_PB_advise) 71 = .ok (.iload_n 1, 1) := by decide +kernel
theorem d_PB_advise_72 : decode (kB K_PB_advise) 72 = .ok (.invokevirtual 233, 3) := by decide +kernel
theorem d_PB_advise_75 : decode (kB K_PB_advise) 75 = .ok (.aload_n 0, 1) := by decide +kernel
theorem d_PB_advise_76 : decode (kB K_PB_advise) 76 = .ok (.getfield 62, 3) := by decide +kernel
theorem d_PB_advise_79 : decode (kB K_PB_advise) 79 = .ok (.invokevirtual 266, 3) := by decide +kernel
theorem d_PB_advise_82 : decode (kB K_PB_advise) 82 = .ok (.istore 5, 2) := by decide +kernel
theorem d_PB_advise_84 : decode (kB K_PB_advise) 84 = .ok (.iload 5, 2) := by decide +kernel
theorem d_PB_advise_86 : decode (kB K_PB_advise) 86 = .ok (.iload_n 3, 1) := by decide +kernel
theorem d_PB_advise_87 : decode (kB K_PB_advise) 87 = .ok (.if_icmp .le 9, 3) := by decide +kernel
theorem d_PB_advise_90 : decode (kB K_PB_advise) 90 = .ok (.iload 5, 2) := by decide +kernel
theorem d_PB_advise_92 : decode (kB K_PB_advise) 92 = .ok (.istore_n 3, 1) := by decide +kernel
theorem d_PB_advise_93 : decode (kB K_PB_advise) 93 = .ok (.iload 4, 2) := by decide +kernel
theorem d_PB_advise_95 : decode (kB K_PB_advise) 95 = .ok (.istore_n 2, 1) := by decide +kernel
theorem d_PB_advise_96 : decode (kB K_PB_advise) 96 = .ok (.iinc 4 1, 3) := by decide +kernel
theorem d_PB_advise_99 : decode (kB K_PB_advise) 99 = .ok (.goto (-71), 3) := by decide +kernel
theorem d_PB_advise_102 : decode (kB K_PB_advise) 102 = .ok (.iload_n 2, 1) := by decide +kernel
theorem d_PB_advise_103 : decode (kB K_PB_advise) 103 = .ok (.ireturn, 1) := by decide +kernel
def K_PB_mean : KM := (⟨"ParishBoards", "mean", "()D"⟩, prog_1_method_25_code, 1, (some (.double)), "ParishBoards", [])
theorem d_PB_mean_0 : decode (kB K_PB_mean) 0 = .ok (.aload_n 0, 1) := by decide +kernel
theorem d_PB_mean_1 : decode (kB K_PB_mean) 1 = .ok (.getfield 23, 3) := by decide +kernel
theorem d_PB_mean_4 : decode (kB K_PB_mean) 4 = .ok (.getfield 250, 3) := by decide +kernel
theorem d_PB_mean_7 : decode (kB K_PB_mean) 7 = .ok (.ifCond .ne 5, 3) := by decide +kernel
theorem d_PB_mean_10 : decode (kB K_PB_mean) 10 = .ok (.dconst 0, 1) := by decide +kernel
theorem d_PB_mean_11 : decode (kB K_PB_mean) 11 = .ok (.dreturn, 1) := by decide +kernel
theorem d_PB_mean_12 : decode (kB K_PB_mean) 12 = .ok (.aload_n 0, 1) := by decide +kernel
theorem d_PB_mean_13 : decode (kB K_PB_mean) 13 = .ok (.getfield 58, 3) := by decide +kernel
theorem d_PB_mean_16 : decode (kB K_PB_mean) 16 = .ok (.invokevirtual 266, 3) := by decide +kernel
theorem d_PB_mean_19 : decode (kB K_PB_mean) 19 = .ok (.i2d, 1) := by decide +kernel
theorem d_PB_mean_20 : decode (kB K_PB_mean) 20 = .ok (.aload_n 0, 1) := by decide +kernel
theorem d_PB_mean_21 : decode (kB K_PB_mean) 21 = .ok (.getfield 23, 3) := by decide +kernel
theorem d_PB_mean_24 : decode (kB K_PB_mean) 24 = .ok (.getfield 250, 3) := by decide +kernel
theorem d_PB_mean_27 : decode (kB K_PB_mean) 27 = .ok (.i2d, 1) := by decide +kernel
theorem d_PB_mean_28 : decode (kB K_PB_mean) 28 = .ok (.ddiv, 1) := by decide +kernel
theorem d_PB_mean_29 : decode (kB K_PB_mean) 29 = .ok (.dreturn, 1) := by decide +kernel
def K_PB_digest : KM := (⟨"ParishBoards", "digest", "()J"⟩, prog_1_method_26_code, 5, (some (.long)), "ParishBoards", [])
theorem d_PB_digest_0 : decode (kB K_PB_digest) 0 = .ok (.ldc2_w 270, 3) := by decide +kernel
theorem d_PB_digest_3 : decode (kB K_PB_digest) 3 = .ok (.lstore_n 1, 1) := by decide +kernel
theorem d_PB_digest_4 : decode (kB K_PB_digest) 4 = .ok (.iconst 0, 1) := by decide +kernel
theorem d_PB_digest_5 : decode (kB K_PB_digest) 5 = .ok (.istore_n 3, 1) := by decide +kernel
theorem d_PB_digest_6 : decode (kB K_PB_digest) 6 = .ok (.iload_n 3, 1) := by decide +kernel
theorem d_PB_digest_7 : decode (kB K_PB_digest) 7 = .ok (.bipush 13, 2) := by decide +kernel
theorem d_PB_digest_9 : decode (kB K_PB_digest) 9 = .ok (.if_icmp .ge 19, 3) := by decide +kernel
theorem d_PB_digest_12 : decode (kB K_PB_digest) 12 = .ok (.lload_n 1, 1) := by decide +kernel
theorem d_PB_digest_13 : decode (kB K_PB_digest) 13 = .ok (.aload_n 0, 1) := by decide +kernel
theorem d_PB_digest_14 : decode (kB K_PB_digest) 14 = .ok (.iload_n 3, 1) := by decide +kernel
theorem d_PB_digest_15 : decode (kB K_PB_digest) 15 = .ok (.invokevirtual 110, 3) := by decide +kernel
theorem d_PB_digest_18 : decode (kB K_PB_digest) 18 = .ok (.invokestatic 272, 3) := by decide +kernel
theorem d_PB_digest_21 : decode (kB K_PB_digest) 21 = .ok (.lstore_n 1, 1) := by decide +kernel
theorem d_PB_digest_22 : decode (kB K_PB_digest) 22 = .ok (.iinc 3 1, 3) := by decide +kernel
theorem d_PB_digest_25 : decode (kB K_PB_digest) 25 = .ok (.goto (-19), 3) := by decide +kernel
theorem d_PB_digest_28 : decode (kB K_PB_digest) 28 = .ok (.iconst 0, 1) := by decide +kernel
theorem d_PB_digest_29 : decode (kB K_PB_digest) 29 = .ok (.istore_n 3, 1) := by decide +kernel
theorem d_PB_digest_30 : decode (kB K_PB_digest) 30 = .ok (.iload_n 3, 1) := by decide +kernel
theorem d_PB_digest_31 : decode (kB K_PB_digest) 31 = .ok (.aload_n 0, 1) := by decide +kernel
theorem d_PB_digest_32 : decode (kB K_PB_digest) 32 = .ok (.getfield 23, 3) := by decide +kernel
theorem d_PB_digest_35 : decode (kB K_PB_digest) 35 = .ok (.getfield 250, 3) := by decide +kernel
theorem d_PB_digest_38 : decode (kB K_PB_digest) 38 = .ok (.if_icmp .ge 16, 3) := by decide +kernel
theorem d_PB_digest_41 : decode (kB K_PB_digest) 41 = .ok (.aload_n 0, 1) := by decide +kernel
theorem d_PB_digest_42 : decode (kB K_PB_digest) 42 = .ok (.lload_n 1, 1) := by decide +kernel
theorem d_PB_digest_43 : decode (kB K_PB_digest) 43 = .ok (.iload_n 3, 1) := by decide +kernel
theorem d_PB_digest_44 : decode (kB K_PB_digest) 44 = .ok (.invokevirtual 276, 3) := by decide +kernel
theorem d_PB_digest_47 : decode (kB K_PB_digest) 47 = .ok (.lstore_n 1, 1) := by decide +kernel
theorem d_PB_digest_48 : decode (kB K_PB_digest) 48 = .ok (.iinc 3 1, 3) := by decide +kernel
theorem d_PB_digest_51 : decode (kB K_PB_digest) 51 = .ok (.goto (-21), 3) := by decide +kernel
theorem d_PB_digest_54 : decode (kB K_PB_digest) 54 = .ok (.iconst 0, 1) := by decide +kernel
theorem d_PB_digest_55 : decode (kB K_PB_digest) 55 = .ok (.istore_n 3, 1) := by decide +kernel
theorem d_PB_digest_56 : decode (kB K_PB_digest) 56 = .ok (.iload_n 3, 1) := by decide +kernel
theorem d_PB_digest_57 : decode (kB K_PB_digest) 57 = .ok (.aload_n 0, 1) := by decide +kernel
theorem d_PB_digest_58 : decode (kB K_PB_digest) 58 = .ok (.getfield 58, 3) := by decide +kernel
theorem d_PB_digest_61 : decode (kB K_PB_digest) 61 = .ok (.getfield 257, 3) := by decide +kernel
theorem d_PB_digest_64 : decode (kB K_PB_digest) 64 = .ok (.if_icmp .ge 16, 3) := by decide +kernel
theorem d_PB_digest_67 : decode (kB K_PB_digest) 67 = .ok (.aload_n 0, 1) := by decide +kernel
theorem d_PB_digest_68 : decode (kB K_PB_digest) 68 = .ok (.lload_n 1, 1) := by decide +kernel
theorem d_PB_digest_69 : decode (kB K_PB_digest) 69 = .ok (.iload_n 3, 1) := by decide +kernel
theorem d_PB_digest_70 : decode (kB K_PB_digest) 70 = .ok (.invokevirtual 279, 3) := by decide +kernel
theorem d_PB_digest_73 : decode (kB K_PB_digest) 73 = .ok (.lstore_n 1, 1) := by decide +kernel
theorem d_PB_digest_74 : decode (kB K_PB_digest) 74 = .ok (.iinc 3 1, 3) := by decide +kernel
theorem d_PB_digest_77 : decode (kB K_PB_digest) 77 = .ok (.goto (-21), 3) := by decide +kernel
theorem d_PB_digest_80 : decode (kB K_PB_digest) 80 = .ok (.iconst 0, 1) := by decide +kernel
theorem d_PB_digest_81 : decode (kB K_PB_digest) 81 = .ok (.istore_n 3, 1) := by decide +kernel
theorem d_PB_digest_82 : decode (kB K_PB_digest) 82 = .ok (.iload_n 3, 1) := by decide +kernel
theorem d_PB_digest_83 : decode (kB K_PB_digest) 83 = .ok (.aload_n 0, 1) := by decide +kernel
theorem d_PB_digest_84 : decode (kB K_PB_digest) 84 = .ok (.getfield 23, 3) := by decide +kernel
theorem d_PB_digest_87 : decode (kB K_PB_digest) 87 = .ok (.getfield 263, 3) := by decide +kernel
theorem d_PB_digest_90 : decode (kB K_PB_digest) 90 = .ok (.if_icmp .ge 39, 3) := by decide +kernel
theorem d_PB_digest_93 : decode (kB K_PB_digest) 93 = .ok (.iconst 0, 1) := by decide +kernel
theorem d_PB_digest_94 : decode (kB K_PB_digest) 94 = .ok (.istore 4, 2) := by decide +kernel
theorem d_PB_digest_96 : decode (kB K_PB_digest) 96 = .ok (.iload 4, 2) := by decide +kernel
theorem d_PB_digest_98 : decode (kB K_PB_digest) 98 = .ok (.iconst 5, 1) := by decide +kernel
theorem d_PB_digest_99 : decode (kB K_PB_digest) 99 = .ok (.if_icmp .ge 24, 3) := by decide +kernel
theorem d_PB_digest_102 : decode (kB K_PB_digest) 102 = .ok (.lload_n 1, 1) := by decide +kernel
theorem d_PB_digest_103 : decode (kB K_PB_digest) 103 = .ok (.aload_n 0, 1) := by decide +kernel
theorem d_PB_digest_104 : decode (kB K_PB_digest) 104 = .ok (.getfield 58, 3) := by decide +kernel
theorem d_PB_digest_107 : decode (kB K_PB_digest) 107 = .ok (.iload_n 3, 1) := by decide +kernel
theorem d_PB_digest_108 : decode (kB K_PB_digest) 108 = .ok (.iload 4, 2) := by decide +kernel
theorem d_PB_digest_110 : decode (kB K_PB_digest) 110 = .ok (.invokevirtual 176, 3) := by decide +kernel
theorem d_PB_digest_113 : decode (kB K_PB_digest) 113 = .ok (.invokestatic 272, 3) := by decide +kernel
theorem d_PB_digest_116 : decode (kB K_PB_digest) 116 = .ok (.lstore_n 1, 1) := by decide +kernel
theorem d_PB_digest_117 : decode (kB K_PB_digest) 117 = .ok (.iinc 4 1, 3) := by decide +kernel
theorem d_PB_digest_120 : decode (kB K_PB_digest) 120 = .ok (.goto (-24), 3) := by decide +kernel
theorem d_PB_digest_123 : decode (kB K_PB_digest) 123 = .ok (.iinc 3 1, 3) := by decide +kernel
theorem d_PB_digest_126 : decode (kB K_PB_digest) 126 = .ok (.goto (-44), 3) := by decide +kernel
theorem d_PB_digest_129 : decode (kB K_PB_digest) 129 = .ok (.lload_n 1, 1) := by decide +kernel
theorem d_PB_digest_130 : decode (kB K_PB_digest) 130 = .ok (.lreturn, 1) := by decide +kernel
def K_PB_append : KM := (⟨"ParishBoards", "append", "(I)V"⟩, prog_1_method_27_code, 3, none, "ParishBoards", [])
theorem d_PB_append_0 : decode (kB K_PB_append) 0 = .ok (.bipush 24, 2) := by decide +kernel
theorem d_PB_append_2 : decode (kB K_PB_append) 2 = .ok (.istore_n 2, 1) := by decide +kernel
theorem d_PB_append_3 : decode (kB K_PB_append) 3 = .ok (.iload_n 2, 1) := by decide +kernel
theorem d_PB_append_4 : decode (kB K_PB_append) 4 = .ok (.ifCond .lt 42, 3) := by decide +kernel
theorem d_PB_append_7 : decode (kB K_PB_append) 7 = .ok (.aload_n 0, 1) := by decide +kernel
theorem d_PB_append_8 : decode (kB K_PB_append) 8 = .ok (.getfield 13, 3) := by decide +kernel
theorem d_PB_append_11 : decode (kB K_PB_append) 11 = .ok (.sipush 2000, 3) := by decide +kernel
theorem d_PB_append_14 : decode (kB K_PB_append) 14 = .ok (.if_icmp .ge 32, 3) := by decide +kernel
theorem d_PB_append_17 : decode (kB K_PB_append) 17 = .ok (.aload_n 0, 1) := by decide +kernel
theorem d_PB_append_18 : decode (kB K_PB_append) 18 = .ok (.getfield 9, 3) := by decide +kernel
theorem d_PB_append_21 : decode (kB K_PB_append) 21 = .ok (.aload_n 0, 1) := by decide +kernel
theorem d_PB_append_22 : decode (kB K_PB_append) 22 = .ok (.getfield 13, 3) := by decide +kernel
theorem d_PB_append_25 : decode (kB K_PB_append) 25 = .ok (.iload_n 1, 1) := by decide +kernel
theorem d_PB_append_26 : decode (kB K_PB_append) 26 = .ok (.iload_n 2, 1) := by decide +kernel
theorem d_PB_append_27 : decode (kB K_PB_append) 27 = .ok (.ishr, 1) := by decide +kernel
theorem d_PB_append_28 : decode (kB K_PB_append) 28 = .ok (.i2b, 1) := by decide +kernel
theorem d_PB_append_29 : decode (kB K_PB_append) 29 = .ok (.bastore, 1) := by decide +kernel
theorem d_PB_append_30 : decode (kB K_PB_append) 30 = .ok (.aload_n 0, 1) := by decide +kernel
theorem d_PB_append_31 : decode (kB K_PB_append) 31 = .ok (.dup, 1) := by decide +kernel
theorem d_PB_append_32 : decode (kB K_PB_append) 32 = .ok (.getfield 13, 3) := by decide +kernel
theorem d_PB_append_35 : decode (kB K_PB_append) 35 = .ok (.iconst 1, 1) := by decide +kernel
theorem d_PB_append_36 : decode (kB K_PB_append) 36 = .ok (.iadd, 1) := by decide +kernel
theorem d_PB_append_37 : decode (kB K_PB_append) 37 = .ok (.putfield 13, 3) := by decide +kernel
theorem d_PB_append_40 : decode (kB K_PB_append) 40 = .ok (.iinc 2 (-8), 3) := by decide +kernel
theorem d_PB_append_43 : decode (kB K_PB_append) 43 = .ok (.goto (-40), 3) := by decide +kernel
theorem d_PB_append_46 : decode (kB K_PB_append) 46 = .ok (.return_, 1) := by decide +kernel
def K_PB_beginAnew : KM := (⟨"ParishBoards", "beginAnew", "()V"⟩, prog_1_method_28_code, 2, none, "ParishBoards", [])
theorem d_PB_beginAnew_0 : decode (kB K_PB_beginAnew) 0 = .ok (.aload_n 0, 1) := by decide +kernel
theorem d_PB_beginAnew_1 : decode (kB K_PB_beginAnew) 1 = .ok (.getfield 27, 3) := by decide +kernel
theorem d_PB_beginAnew_4 : decode (kB K_PB_beginAnew) 4 = .ok (.aload_n 0, 1) := by decide +kernel
theorem d_PB_beginAnew_5 : decode (kB K_PB_beginAnew) 5 = .ok (.getfield 33, 3) := by decide +kernel
theorem d_PB_beginAnew_8 : decode (kB K_PB_beginAnew) 8 = .ok (.invokevirtual 282, 3) := by decide +kernel
theorem d_PB_beginAnew_11 : decode (kB K_PB_beginAnew) 11 = .ok (.aload_n 0, 1) := by decide +kernel
theorem d_PB_beginAnew_12 : decode (kB K_PB_beginAnew) 12 = .ok (.getfield 23, 3) := by decide +kernel
theorem d_PB_beginAnew_15 : decode (kB K_PB_beginAnew) 15 = .ok (.astore_n 1, 1) := by decide +kernel
theorem d_PB_beginAnew_16 : decode (kB K_PB_beginAnew) 16 = .ok (.aload_n 0, 1) := by decide +kernel
theorem d_PB_beginAnew_17 : decode (kB K_PB_beginAnew) 17 = .ok (.aload_n 0, 1) := by decide +kernel
theorem d_PB_beginAnew_18 : decode (kB K_PB_beginAnew) 18 = .ok (.getfield 27, 3) := by decide +kernel
theorem d_PB_beginAnew_21 : decode (kB K_PB_beginAnew) 21 = .ok (.putfield 23, 3) := by decide +kernel
theorem d_PB_beginAnew_24 : decode (kB K_PB_beginAnew) 24 = .ok (.aload_n 0, 1) := by decide +kernel
theorem d_PB_beginAnew_25 : decode (kB K_PB_beginAnew) 25 = .ok (.aload_n 1, 1) := by decide +kernel
theorem d_PB_beginAnew_26 : decode (kB K_PB_beginAnew) 26 = .ok (.putfield 27, 3) := by decide +kernel
theorem d_PB_beginAnew_29 : decode (kB K_PB_beginAnew) 29 = .ok (.aload_n 0, 1) := by decide +kernel
theorem d_PB_beginAnew_30 : decode (kB K_PB_beginAnew) 30 = .ok (.getfield 58, 3) := by decide +kernel
theorem d_PB_beginAnew_33 : decode (kB K_PB_beginAnew) 33 = .ok (.aload_n 0, 1) := by decide +kernel
theorem d_PB_beginAnew_34 : decode (kB K_PB_beginAnew) 34 = .ok (.getfield 23, 3) := by decide +kernel
theorem d_PB_beginAnew_37 : decode (kB K_PB_beginAnew) 37 = .ok (.invokevirtual 286, 3) := by decide +kernel
theorem d_PB_beginAnew_40 : decode (kB K_PB_beginAnew) 40 = .ok (.return_, 1) := by decide +kernel
def K_PB_counted : KM := (⟨"ParishBoards", "counted", "(I)I"⟩, prog_1_method_29_code, 2, (some (.int)), "ParishBoards", [])
theorem d_PB_counted_0 : decode (kB K_PB_counted) 0 = .ok (.iload_n 1, 1) := by decide +kernel
theorem d_PB_counted_1 : decode (kB K_PB_counted) 1 = .ok (.bipush 12, 2) := by decide +kernel
theorem d_PB_counted_3 : decode (kB K_PB_counted) 3 = .ok (.if_icmp .ne 10, 3) := by decide +kernel
theorem d_PB_counted_6 : decode (kB K_PB_counted) 6 = .ok (.aload_n 0, 1) := by decide +kernel
theorem d_PB_counted_7 : decode (kB K_PB_counted) 7 = .ok (.getfield 13, 3) := by decide +kernel
theorem d_PB_counted_10 : decode (kB K_PB_counted) 10 = .ok (.goto 11, 3) := by decide +kernel
theorem d_PB_counted_13 : decode (kB K_PB_counted) 13 = .ok (.aload_n 0, 1) := by decide +kernel
theorem d_PB_counted_14 : decode (kB K_PB_counted) 14 = .ok (.getfield 58, 3) := by decide +kernel
theorem d_PB_counted_17 : decode (kB K_PB_counted) 17 = .ok (.iload_n 1, 1) := by decide +kernel
theorem d_PB_counted_18 : decode (kB K_PB_counted) 18 = .ok (.invokevirtual 242, 3) := by decide +kernel
theorem d_PB_counted_21 : decode (kB K_PB_counted) 21 = .ok (.ireturn, 1) := by decide +kernel
def K_PB_isParish : KM := (⟨"ParishBoards", "isParish", "(I)Z"⟩, prog_1_method_30_code, 2, (some (.boolean)), "ParishBoards", [])
theorem d_PB_isParish_0 : decode (kB K_PB_isParish) 0 = .ok (.iload_n 1, 1) := by decide +kernel
theorem d_PB_isParish_1 : decode (kB K_PB_isParish) 1 = .ok (.ifCond .lt 18, 3) := by decide +kernel
theorem d_PB_isParish_4 : decode (kB K_PB_isParish) 4 = .ok (.iload_n 1, 1) := by decide +kernel
theorem d_PB_isParish_5 : decode (kB K_PB_isParish) 5 = .ok (.aload_n 0, 1) := by decide +kernel
theorem d_PB_isParish_6 : decode (kB K_PB_isParish) 6 = .ok (.getfield 23, 3) := by decide +kernel
theorem d_PB_isParish_9 : decode (kB K_PB_isParish) 9 = .ok (.getfield 250, 3) := by decide +kernel
theorem d_PB_isParish_12 : decode (kB K_PB_isParish) 12 = .ok (.if_icmp .ge 7, 3) := by decide +kernel
theorem d_PB_isParish_15 : decode (kB K_PB_isParish) 15 = .ok (.iconst 1, 1) := by decide +kernel
theorem d_PB_isParish_16 : decode (kB K_PB_isParish) 16 = .ok (.goto 4, 3) := by decide +kernel
theorem d_PB_isParish_19 : decode (kB K_PB_isParish) 19 = .ok (.iconst 0, 1) := by decide +kernel
theorem d_PB_isParish_20 : decode (kB K_PB_isParish) 20 = .ok (.ireturn, 1) := by decide +kernel
def K_PB_isBoardOf : KM := (⟨"ParishBoards", "isBoardOf", "(II)Z"⟩, prog_1_method_31_code, 3, (some (.boolean)), "ParishBoards", [])
theorem d_PB_isBoardOf_0 : decode (kB K_PB_isBoardOf) 0 = .ok (.aload_n 0, 1) := by decide +kernel
theorem d_PB_isBoardOf_1 : decode (kB K_PB_isBoardOf) 1 = .ok (.iload_n 1, 1) := by decide +kernel
theorem d_PB_isBoardOf_2 : decode (kB K_PB_isBoardOf) 2 = .ok (.invokevirtual 113, 3) := by decide +kernel
theorem d_PB_isBoardOf_5 : decode (kB K_PB_isBoardOf) 5 = .ok (.ifCond .eq 22, 3) := by decide +kernel
theorem d_PB_isBoardOf_8 : decode (kB K_PB_isBoardOf) 8 = .ok (.iload_n 2, 1) := by decide +kernel
theorem d_PB_isBoardOf_9 : decode (kB K_PB_isBoardOf) 9 = .ok (.ifCond .lt 18, 3) := by decide +kernel
theorem d_PB_isBoardOf_12 : decode (kB K_PB_isBoardOf) 12 = .ok (.iload_n 2, 1) := by decide +kernel
theorem d_PB_isBoardOf_13 : decode (kB K_PB_isBoardOf) 13 = .ok (.aload_n 0, 1) := by decide +kernel
theorem d_PB_isBoardOf_14 : decode (kB K_PB_isBoardOf) 14 = .ok (.getfield 23, 3) := by decide +kernel
theorem d_PB_isBoardOf_17 : decode (kB K_PB_isBoardOf) 17 = .ok (.getfield 289, 3) := by decide +kernel
theorem d_PB_isBoardOf_20 : decode (kB K_PB_isBoardOf) 20 = .ok (.if_icmp .ge 7, 3) := by decide +kernel
theorem d_PB_isBoardOf_23 : decode (kB K_PB_isBoardOf) 23 = .ok (.iconst 1, 1) := by decide +kernel
theorem d_PB_isBoardOf_24 : decode (kB K_PB_isBoardOf) 24 = .ok (.goto 4, 3) := by decide +kernel
theorem d_PB_isBoardOf_27 : decode (kB K_PB_isBoardOf) 27 = .ok (.iconst 0, 1) := by decide +kernel
theorem d_PB_isBoardOf_28 : decode (kB K_PB_isBoardOf) 28 = .ok (.ireturn, 1) := by decide +kernel
def K_PB_isRoad : KM := (⟨"ParishBoards", "isRoad", "(I)Z"⟩, prog_1_method_32_code, 2, (some (.boolean)), "ParishBoards", [])
theorem d_PB_isRoad_0 : decode (kB K_PB_isRoad) 0 = .ok (.iload_n 1, 1) := by decide +kernel
theorem d_PB_isRoad_1 : decode (kB K_PB_isRoad) 1 = .ok (.ifCond .lt 18, 3) := by decide +kernel
theorem d_PB_isRoad_4 : decode (kB K_PB_isRoad) 4 = .ok (.iload_n 1, 1) := by decide +kernel
theorem d_PB_isRoad_5 : decode (kB K_PB_isRoad) 5 = .ok (.aload_n 0, 1) := by decide +kernel
theorem d_PB_isRoad_6 : decode (kB K_PB_isRoad) 6 = .ok (.getfield 23, 3) := by decide +kernel
theorem d_PB_isRoad_9 : decode (kB K_PB_isRoad) 9 = .ok (.getfield 263, 3) := by decide +kernel
theorem d_PB_isRoad_12 : decode (kB K_PB_isRoad) 12 = .ok (.if_icmp .ge 7, 3) := by decide +kernel
theorem d_PB_isRoad_15 : decode (kB K_PB_isRoad) 15 = .ok (.iconst 1, 1) := by decide +kernel
theorem d_PB_isRoad_16 : decode (kB K_PB_isRoad) 16 = .ok (.goto 4, 3) := by decide +kernel
theorem d_PB_isRoad_19 : decode (kB K_PB_isRoad) 19 = .ok (.iconst 0, 1) := by decide +kernel
theorem d_PB_isRoad_20 : decode (kB K_PB_isRoad) 20 = .ok (.ireturn, 1) := by decide +kernel
def K_PB_isSheet : KM := (⟨"ParishBoards", "isSheet", "(I)Z"⟩, prog_1_method_33_code, 2, (some (.boolean)), "ParishBoards", [])
theorem d_PB_isSheet_0 : decode (kB K_PB_isSheet) 0 = .ok (.iload_n 1, 1) := by decide +kernel
theorem d_PB_isSheet_1 : decode (kB K_PB_isSheet) 1 = .ok (.ifCond .lt 18, 3) := by decide +kernel
theorem d_PB_isSheet_4 : decode (kB K_PB_isSheet) 4 = .ok (.iload_n 1, 1) := by decide +kernel
theorem d_PB_isSheet_5 : decode (kB K_PB_isSheet) 5 = .ok (.aload_n 0, 1) := by decide +kernel
theorem d_PB_isSheet_6 : decode (kB K_PB_isSheet) 6 = .ok (.getfield 58, 3) := by decide +kernel
theorem d_PB_isSheet_9 : decode (kB K_PB_isSheet) 9 = .ok (.getfield 257, 3) := by decide +kernel
theorem d_PB_isSheet_12 : decode (kB K_PB_isSheet) 12 = .ok (.if_icmp .ge 7, 3) := by decide +kernel
theorem d_PB_isSheet_15 : decode (kB K_PB_isSheet) 15 = .ok (.iconst 1, 1) := by decide +kernel
theorem d_PB_isSheet_16 : decode (kB K_PB_isSheet) 16 = .ok (.goto 4, 3) := by decide +kernel
theorem d_PB_isSheet_19 : decode (kB K_PB_isSheet) 19 = .ok (.iconst 0, 1) := by decide +kernel
theorem d_PB_isSheet_20 : decode (kB K_PB_isSheet) 20 = .ok (.ireturn, 1) := by decide +kernel
def K_PB_isMark : KM := (⟨"ParishBoards", "isMark", "(I)Z"⟩, prog_1_method_34_code, 1, (some (.boolean)), "ParishBoards", [])
theorem d_PB_isMark_0 : decode (kB K_PB_isMark) 0 = .ok (.iload_n 0, 1) := by decide +kernel
theorem d_PB_isMark_1 : decode (kB K_PB_isMark) 1 = .ok (.ifCond .lt 13, 3) := by decide +kernel
theorem d_PB_isMark_4 : decode (kB K_PB_isMark) 4 = .ok (.iload_n 0, 1) := by decide +kernel
theorem d_PB_isMark_5 : decode (kB K_PB_isMark) 5 = .ok (.bipush 15, 2) := by decide +kernel
theorem d_PB_isMark_7 : decode (kB K_PB_isMark) 7 = .ok (.if_icmp .gt 7, 3) := by decide +kernel
theorem d_PB_isMark_10 : decode (kB K_PB_isMark) 10 = .ok (.iconst 1, 1) := by decide +kernel
theorem d_PB_isMark_11 : decode (kB K_PB_isMark) 11 = .ok (.goto 4, 3) := by decide +kernel
theorem d_PB_isMark_14 : decode (kB K_PB_isMark) 14 = .ok (.iconst 0, 1) := by decide +kernel
theorem d_PB_isMark_15 : decode (kB K_PB_isMark) 15 = .ok (.ireturn, 1) := by decide +kernel
def K_PB_mixed : KM := (⟨"ParishBoards", "mixed", "(JI)J"⟩, prog_1_method_35_code, 3, (some (.long)), "ParishBoards", [])
theorem d_PB_mixed_0 : decode (kB K_PB_mixed) 0 = .ok (.lload_n 0, 1) := by decide +kernel
theorem d_PB_mixed_1 : decode (kB K_PB_mixed) 1 = .ok (.ldc2_w 292, 3) := by decide +kernel
theorem d_PB_mixed_4 : decode (kB K_PB_mixed) 4 = .ok (.lmul, 1) := by decide +kernel
theorem d_PB_mixed_5 : decode (kB K_PB_mixed) 5 = .ok (.iload_n 2, 1) := by decide +kernel
theorem d_PB_mixed_6 : decode (kB K_PB_mixed) 6 = .ok (.i2l, 1) := by decide +kernel
theorem d_PB_mixed_7 : decode (kB K_PB_mixed) 7 = .ok (.ladd, 1) := by decide +kernel
theorem d_PB_mixed_8 : decode (kB K_PB_mixed) 8 = .ok (.lreturn, 1) := by decide +kernel
def K_PB_mixedParish : KM := (⟨"ParishBoards", "mixedParish", "(JI)J"⟩, prog_1_method_36_code, 10, (some (.long)), "ParishBoards", [])
theorem d_PB_mixedParish_0 : decode (kB K_PB_mixedParish) 0 = .ok (.lload_n 1, 1) := by decide +kernel
theorem d_PB_mixedParish_1 : decode (kB K_PB_mixedParish) 1 = .ok (.lstore 4, 2) := by decide +kernel
theorem d_PB_mixedParish_3 : decode (kB K_PB_mixedParish) 3 = .ok (.iconst 0, 1) := by decide +kernel
theorem d_PB_mixedParish_4 : decode (kB K_PB_mixedParish) 4 = .ok (.istore 6, 2) := by decide +kernel
theorem d_PB_mixedParish_6 : decode (kB K_PB_mixedParish) 6 = .ok (.iload 6, 2) := by decide +kernel
theorem d_PB_mixedParish_8 : decode (kB K_PB_mixedParish) 8 = .ok (.bipush 6, 2) := by decide +kernel
theorem d_PB_mixedParish_10 : decode (kB K_PB_mixedParish) 10 = .ok (.if_icmp .ge 26, 3) := by decide +kernel
theorem d_PB_mixedParish_13 : decode (kB K_PB_mixedParish) 13 = .ok (.lload 4, 2) := by decide +kernel
theorem d_PB_mixedParish_15 : decode (kB K_PB_mixedParish) 15 = .ok (.aload_n 0, 1) := by decide +kernel
theorem d_PB_mixedParish_16 : decode (kB K_PB_mixedParish) 16 = .ok (.getfield 58, 3) := by decide +kernel
theorem d_PB_mixedParish_19 : decode (kB K_PB_mixedParish) 19 = .ok (.iload_n 3, 1) := by decide +kernel
theorem d_PB_mixedParish_20 : decode (kB K_PB_mixedParish) 20 = .ok (.iload 6, 2) := by decide +kernel
theorem d_PB_mixedParish_22 : decode (kB K_PB_mixedParish) 22 = .ok (.invokevirtual 119, 3) := by decide +kernel
theorem d_PB_mixedParish_25 : decode (kB K_PB_mixedParish) 25 = .ok (.invokestatic 272, 3) := by decide +kernel
theorem d_PB_mixedParish_28 : decode (kB K_PB_mixedParish) 28 = .ok (.lstore 4, 2) := by decide +kernel
theorem d_PB_mixedParish_30 : decode (kB K_PB_mixedParish) 30 = .ok (.iinc 6 1, 3) := by decide +kernel
theorem d_PB_mixedParish_33 : decode (kB K_PB_mixedParish) 33 = .ok (.goto (-27), 3) := by decide +kernel
theorem d_PB_mixedParish_36 : decode (kB K_PB_mixedParish) 36 = .ok (.aload_n 0, 1) := by decide +kernel
theorem d_PB_mixedParish_37 : decode (kB K_PB_mixedParish) 37 = .ok (.getfield 58, 3) := by decide +kernel
theorem d_PB_mixedParish_40 : decode (kB K_PB_mixedParish) 40 = .ok (.getfield 125, 3) := by decide +kernel
theorem d_PB_mixedParish_43 : decode (kB K_PB_mixedParish) 43 = .ok (.iload_n 3, 1) := by decide +kernel
theorem d_PB_mixedParish_44 : decode (kB K_PB_mixedParish) 44 = .ok (.aaload, 1) := by decide +kernel
theorem d_PB_mixedParish_45 : decode (kB K_PB_mixedParish) 45 = .ok (.astore 6, 2) := by decide +kernel
theorem d_PB_mixedParish_47 : decode (kB K_PB_mixedParish) 47 = .ok (.iconst 0, 1) := by decide +kernel
theorem d_PB_mixedParish_48 : decode (kB K_PB_mixedParish) 48 = .ok (.istore 7, 2) := by decide +kernel
theorem d_PB_mixedParish_50 : decode (kB K_PB_mixedParish) 50 = .ok (.iload 7, 2) := by decide +kernel
theorem d_PB_mixedParish_52 : decode (kB K_PB_mixedParish) 52 = .ok (.aload_n 0, 1) := by decide +kernel
theorem d_PB_mixedParish_53 : decode (kB K_PB_mixedParish) 53 = .ok (.getfield 23, 3) := by decide +kernel
theorem d_PB_mixedParish_56 : decode (kB K_PB_mixedParish) 56 = .ok (.getfield 250, 3) := by decide +kernel
theorem d_PB_mixedParish_59 : decode (kB K_PB_mixedParish) 59 = .ok (.if_icmp .ge 24, 3) := by decide +kernel
theorem d_PB_mixedParish_62 : decode (kB K_PB_mixedParish) 62 = .ok (.lload 4, 2) := by decide +kernel
theorem d_PB_mixedParish_64 : decode (kB K_PB_mixedParish) 64 = .ok (.aload 6, 2) := by decide +kernel
theorem d_PB_mixedParish_66 : decode (kB K_PB_mixedParish) 66 = .ok (.getfield 129, 3) := by decide +kernel
theorem d_PB_mixedParish_69 : decode (kB K_PB_mixedParish) 69 = .ok (.iload 7, 2) := by decide +kernel
theorem d_PB_mixedParish_71 : decode (kB K_PB_mixedParish) 71 = .ok (.iaload, 1) := by decide +kernel
theorem d_PB_mixedParish_72 : decode (kB K_PB_mixedParish) 72 = .ok (.invokestatic 272, 3) := by decide +kernel
theorem d_PB_mixedParish_75 : decode (kB K_PB_mixedParish) 75 = .ok (.lstore 4, 2) := by decide +kernel
theorem d_PB_mixedParish_77 : decode (kB K_PB_mixedParish) 77 = .ok (.iinc 7 1, 3) := by decide +kernel
theorem d_PB_mixedParish_80 : decode (kB K_PB_mixedParish) 80 = .ok (.goto (-30), 3) := by decide +kernel
theorem d_PB_mixedParish_83 : decode (kB K_PB_mixedParish) 83 = .ok (.iconst 0, 1) := by decide +kernel
theorem d_PB_mixedParish_84 : decode (kB K_PB_mixedParish) 84 = .ok (.istore 7, 2) := by decide +kernel
theorem d_PB_mixedParish_86 : decode (kB K_PB_mixedParish) 86 = .ok (.iload 7, 2) := by decide +kernel
theorem d_PB_mixedParish_88 : decode (kB K_PB_mixedParish) 88 = .ok (.aload_n 0, 1) := by decide +kernel
theorem d_PB_mixedParish_89 : decode (kB K_PB_mixedParish) 89 = .ok (.getfield 23, 3) := by decide +kernel
theorem d_PB_mixedParish_92 : decode (kB K_PB_mixedParish) 92 = .ok (.getfield 289, 3) := by decide +kernel
theorem d_PB_mixedParish_95 : decode (kB K_PB_mixedParish) 95 = .ok (.if_icmp .ge 50, 3) := by decide +kernel
theorem d_PB_mixedParish_98 : decode (kB K_PB_mixedParish) 98 = .ok (.aload 6, 2) := by decide +kernel
theorem d_PB_mixedParish_100 : decode (kB K_PB_mixedParish) 100 = .ok (.iload 7, 2) := by decide +kernel
theorem d_PB_mixedParish_102 : decode (kB K_PB_mixedParish) 102 = .ok (.invokevirtual 294, 3) := by decide +kernel
theorem d_PB_mixedParish_105 : decode (kB K_PB_mixedParish) 105 = .ok (.istore 8, 2) := by decide +kernel
theorem d_PB_mixedParish_107 : decode (kB K_PB_mixedParish) 107 = .ok (.iconst 0, 1) := by decide +kernel
theorem d_PB_mixedParish_108 : decode (kB K_PB_mixedParish) 108 = .ok (.istore 9, 2) := by decide +kernel
theorem d_PB_mixedParish_110 : decode (kB K_PB_mixedParish) 110 = .ok (.iload 9, 2) := by decide +kernel
theorem d_PB_mixedParish_112 : decode (kB K_PB_mixedParish) 112 = .ok (.iload 8, 2) := by decide +kernel
theorem d_PB_mixedParish_114 : decode (kB K_PB_mixedParish) 114 = .ok (.if_icmp .ge 25, 3) := by decide +kernel
theorem d_PB_mixedParish_117 : decode (kB K_PB_mixedParish) 117 = .ok (.lload 4, 2) := by decide +kernel
theorem d_PB_mixedParish_119 : decode (kB K_PB_mixedParish) 119 = .ok (.aload 6, 2) := by decide +kernel
theorem d_PB_mixedParish_121 : decode (kB K_PB_mixedParish) 121 = .ok (.iload 7, 2) := by decide +kernel
theorem d_PB_mixedParish_123 : decode (kB K_PB_mixedParish) 123 = .ok (.iload 9, 2) := by decide +kernel
theorem d_PB_mixedParish_125 : decode (kB K_PB_mixedParish) 125 = .ok (.invokevirtual 160, 3) := by decide +kernel
theorem d_PB_mixedParish_128 : decode (kB K_PB_mixedParish) 128 = .ok (.invokestatic 272, 3) := by decide +kernel
theorem d_PB_mixedParish_131 : decode (kB K_PB_mixedParish) 131 = .ok (.lstore 4, 2) := by decide +kernel
theorem d_PB_mixedParish_133 : decode (kB K_PB_mixedParish) 133 = .ok (.iinc 9 1, 3) := by decide +kernel
theorem d_PB_mixedParish_136 : decode (kB K_PB_mixedParish) 136 = .ok (.goto (-26), 3) := by decide +kernel
theorem d_PB_mixedParish_139 : decode (kB K_PB_mixedParish) 139 = .ok (.iinc 7 1, 3) := by decide +kernel
theorem d_PB_mixedParish_142 : decode (kB K_PB_mixedParish) 142 = .ok (.goto (-56), 3) := by decide +kernel
theorem d_PB_mixedParish_145 : decode (kB K_PB_mixedParish) 145 = .ok (.lload 4, 2) := by decide +kernel
theorem d_PB_mixedParish_147 : decode (kB K_PB_mixedParish) 147 = .ok (.lreturn, 1) := by decide +kernel
def K_PB_mixedSheet : KM := (⟨"ParishBoards", "mixedSheet", "(JI)J"⟩, prog_1_method_37_code, 7, (some (.long)), "ParishBoards", [])
theorem d_PB_mixedSheet_0 : decode (kB K_PB_mixedSheet) 0 = .ok (.lload_n 1, 1) := by decide +kernel
theorem d_PB_mixedSheet_1 : decode (kB K_PB_mixedSheet) 1 = .ok (.lstore 4, 2) := by decide +kernel
theorem d_PB_mixedSheet_3 : decode (kB K_PB_mixedSheet) 3 = .ok (.iconst 0, 1) := by decide +kernel
theorem d_PB_mixedSheet_4 : decode (kB K_PB_mixedSheet) 4 = .ok (.istore 6, 2) := by decide +kernel
theorem d_PB_mixedSheet_6 : decode (kB K_PB_mixedSheet) 6 = .ok (.iload 6, 2) := by decide +kernel
theorem d_PB_mixedSheet_8 : decode (kB K_PB_mixedSheet) 8 = .ok (.bipush 8, 2) := by decide +kernel
theorem d_PB_mixedSheet_10 : decode (kB K_PB_mixedSheet) 10 = .ok (.if_icmp .ge 26, 3) := by decide +kernel
theorem d_PB_mixedSheet_13 : decode (kB K_PB_mixedSheet) 13 = .ok (.lload 4, 2) := by decide +kernel
theorem d_PB_mixedSheet_15 : decode (kB K_PB_mixedSheet) 15 = .ok (.aload_n 0, 1) := by decide +kernel
theorem d_PB_mixedSheet_16 : decode (kB K_PB_mixedSheet) 16 = .ok (.getfield 58, 3) := by decide +kernel
theorem d_PB_mixedSheet_19 : decode (kB K_PB_mixedSheet) 19 = .ok (.iload_n 3, 1) := by decide +kernel
theorem d_PB_mixedSheet_20 : decode (kB K_PB_mixedSheet) 20 = .ok (.iload 6, 2) := by decide +kernel
theorem d_PB_mixedSheet_22 : decode (kB K_PB_mixedSheet) 22 = .ok (.invokevirtual 140, 3) := by decide +kernel
theorem d_PB_mixedSheet_25 : decode (kB K_PB_mixedSheet) 25 = .ok (.invokestatic 272, 3) := by decide +kernel
theorem d_PB_mixedSheet_28 : decode (kB K_PB_mixedSheet) 28 = .ok (.lstore 4, 2) := by decide +kernel
theorem d_PB_mixedSheet_30 : decode (kB K_PB_mixedSheet) 30 = .ok (.iinc 6 1, 3) := by decide +kernel
theorem d_PB_mixedSheet_33 : decode (kB K_PB_mixedSheet) 33 = .ok (.goto (-27), 3) := by decide +kernel
theorem d_PB_mixedSheet_36 : decode (kB K_PB_mixedSheet) 36 = .ok (.iconst 0, 1) := by decide +kernel
theorem d_PB_mixedSheet_37 : decode (kB K_PB_mixedSheet) 37 = .ok (.istore 6, 2) := by decide +kernel
theorem d_PB_mixedSheet_39 : decode (kB K_PB_mixedSheet) 39 = .ok (.iload 6, 2) := by decide +kernel
theorem d_PB_mixedSheet_41 : decode (kB K_PB_mixedSheet) 41 = .ok (.aload_n 0, 1) := by decide +kernel
theorem d_PB_mixedSheet_42 : decode (kB K_PB_mixedSheet) 42 = .ok (.getfield 23, 3) := by decide +kernel
theorem d_PB_mixedSheet_45 : decode (kB K_PB_mixedSheet) 45 = .ok (.getfield 250, 3) := by decide +kernel
theorem d_PB_mixedSheet_48 : decode (kB K_PB_mixedSheet) 48 = .ok (.if_icmp .ge 31, 3) := by decide +kernel
theorem d_PB_mixedSheet_51 : decode (kB K_PB_mixedSheet) 51 = .ok (.lload 4, 2) := by decide +kernel
theorem d_PB_mixedSheet_53 : decode (kB K_PB_mixedSheet) 53 = .ok (.aload_n 0, 1) := by decide +kernel
theorem d_PB_mixedSheet_54 : decode (kB K_PB_mixedSheet) 54 = .ok (.getfield 58, 3) := by decide +kernel
theorem d_PB_mixedSheet_57 : decode (kB K_PB_mixedSheet) 57 = .ok (.getfield 145, 3) := by decide +kernel
theorem d_PB_mixedSheet_60 : decode (kB K_PB_mixedSheet) 60 = .ok (.iload_n 3, 1) := by decide +kernel
theorem d_PB_mixedSheet_61 : decode (kB K_PB_mixedSheet) 61 = .ok (.aaload, 1) := by decide +kernel
theorem d_PB_mixedSheet_62 : decode (kB K_PB_mixedSheet) 62 = .ok (.getfield 149, 3) := by decide +kernel
theorem d_PB_mixedSheet_65 : decode (kB K_PB_mixedSheet) 65 = .ok (.iload 6, 2) := by decide +kernel
theorem d_PB_mixedSheet_67 : decode (kB K_PB_mixedSheet) 67 = .ok (.iaload, 1) := by decide +kernel
theorem d_PB_mixedSheet_68 : decode (kB K_PB_mixedSheet) 68 = .ok (.invokestatic 272, 3) := by decide +kernel
theorem d_PB_mixedSheet_71 : decode (kB K_PB_mixedSheet) 71 = .ok (.lstore 4, 2) := by decide +kernel
theorem d_PB_mixedSheet_73 : decode (kB K_PB_mixedSheet) 73 = .ok (.iinc 6 1, 3) := by decide +kernel
theorem d_PB_mixedSheet_76 : decode (kB K_PB_mixedSheet) 76 = .ok (.goto (-37), 3) := by decide +kernel
theorem d_PB_mixedSheet_79 : decode (kB K_PB_mixedSheet) 79 = .ok (.lload 4, 2) := by decide +kernel
theorem d_PB_mixedSheet_81 : decode (kB K_PB_mixedSheet) 81 = .ok (.lreturn, 1) := by decide +kernel
def K_MP_init : KM := (⟨"ParishBoardsModel$Plan", "<init>", "()V"⟩, prog_16_method_1_code, 1, none, "ParishBoardsModel$Plan", [])
theorem d_MP_init_0 : decode (kB K_MP_init) 0 = .ok (.aload_n 0, 1) := by decide +kernel
theorem d_MP_init_1 : decode (kB K_MP_init) 1 = .ok (.invokespecial 3, 3) := by decide +kernel
theorem d_MP_init_4 : decode (kB K_MP_init) 4 = .ok (.aload_n 0, 1) := by decide +kernel
theorem d_MP_init_5 : decode (kB K_MP_init) 5 = .ok (.bipush 8, 2) := by decide +kernel
theorem d_MP_init_7 : decode (kB K_MP_init) 7 = .ok (.newarray .int, 2) := by decide +kernel
theorem d_MP_init_9 : decode (kB K_MP_init) 9 = .ok (.putfield 9, 3) := by decide +kernel
theorem d_MP_init_12 : decode (kB K_MP_init) 12 = .ok (.aload_n 0, 1) := by decide +kernel
theorem d_MP_init_13 : decode (kB K_MP_init) 13 = .ok (.bipush 8, 2) := by decide +kernel
theorem d_MP_init_15 : decode (kB K_MP_init) 15 = .ok (.newarray .int, 2) := by decide +kernel
theorem d_MP_init_17 : decode (kB K_MP_init) 17 = .ok (.putfield 15, 3) := by decide +kernel
theorem d_MP_init_20 : decode (kB K_MP_init) 20 = .ok (.aload_n 0, 1) := by decide +kernel
theorem d_MP_init_21 : decode (kB K_MP_init) 21 = .ok (.bipush 8, 2) := by decide +kernel
theorem d_MP_init_23 : decode (kB K_MP_init) 23 = .ok (.newarray .int, 2) := by decide +kernel
theorem d_MP_init_25 : decode (kB K_MP_init) 25 = .ok (.putfield 18, 3) := by decide +kernel
theorem d_MP_init_28 : decode (kB K_MP_init) 28 = .ok (.aload_n 0, 1) := by decide +kernel
theorem d_MP_init_29 : decode (kB K_MP_init) 29 = .ok (.bipush 20, 2) := by decide +kernel
theorem d_MP_init_31 : decode (kB K_MP_init) 31 = .ok (.newarray .int, 2) := by decide +kernel
theorem d_MP_init_33 : decode (kB K_MP_init) 33 = .ok (.putfield 21, 3) := by decide +kernel
theorem d_MP_init_36 : decode (kB K_MP_init) 36 = .ok (.aload_n 0, 1) := by decide +kernel
theorem d_MP_init_37 : decode (kB K_MP_init) 37 = .ok (.bipush 20, 2) := by decide +kernel
theorem d_MP_init_39 : decode (kB K_MP_init) 39 = .ok (.newarray .int, 2) := by decide +kernel
theorem d_MP_init_41 : decode (kB K_MP_init) 41 = .ok (.putfield 24, 3) := by decide +kernel
theorem d_MP_init_44 : decode (kB K_MP_init) 44 = .ok (.aload_n 0, 1) := by decide +kernel
theorem d_MP_init_45 : decode (kB K_MP_init) 45 = .ok (.bipush 20, 2) := by decide +kernel
theorem d_MP_init_47 : decode (kB K_MP_init) 47 = .ok (.newarray .int, 2) := by decide +kernel
theorem d_MP_init_49 : decode (kB K_MP_init) 49 = .ok (.putfield 27, 3) := by decide +kernel
theorem d_MP_init_52 : decode (kB K_MP_init) 52 = .ok (.aload_n 0, 1) := by decide +kernel
theorem d_MP_init_53 : decode (kB K_MP_init) 53 = .ok (.bipush 20, 2) := by decide +kernel
theorem d_MP_init_55 : decode (kB K_MP_init) 55 = .ok (.newarray .int, 2) := by decide +kernel
theorem d_MP_init_57 : decode (kB K_MP_init) 57 = .ok (.putfield 30, 3) := by decide +kernel
theorem d_MP_init_60 : decode (kB K_MP_init) 60 = .ok (.aload_n 0, 1) := by decide +kernel
theorem d_MP_init_61 : decode (kB K_MP_init) 61 = .ok (.bipush 21, 2) := by decide +kernel
theorem d_MP_init_63 : decode (kB K_MP_init) 63 = .ok (.newarray .int, 2) := by decide +kernel
theorem d_MP_init_65 : decode (kB K_MP_init) 65 = .ok (.putfield 33, 3) := by decide +kernel
theorem d_MP_init_68 : decode (kB K_MP_init) 68 = .ok (.aload_n 0, 1) := by decide +kernel
theorem d_MP_init_69 : decode (kB K_MP_init) 69 = .ok (.bipush 21, 2) := by decide +kernel
theorem d_MP_init_71 : decode (kB K_MP_init) 71 = .ok (.newarray .int, 2) := by decide +kernel
theorem d_MP_init_73 : decode (kB K_MP_init) 73 = .ok (.putfield 36, 3) := by decide +kernel
theorem d_MP_init_76 : decode (kB K_MP_init) 76 = .ok (.aload_n 0, 1) := by decide +kernel
theorem d_MP_init_77 : decode (kB K_MP_init) 77 = .ok (.bipush 21, 2) := by decide +kernel
theorem d_MP_init_79 : decode (kB K_MP_init) 79 = .ok (.newarray .int, 2) := by decide +kernel
theorem d_MP_init_81 : decode (kB K_MP_init) 81 = .ok (.putfield 39, 3) := by decide +kernel
theorem d_MP_init_84 : decode (kB K_MP_init) 84 = .ok (.aload_n 0, 1) := by decide +kernel
theorem d_MP_init_85 : decode (kB K_MP_init) 85 = .ok (.sipush 800, 3) := by decide +kernel
theorem d_MP_init_88 : decode (kB K_MP_init) 88 = .ok (.newarray .int, 2) := by decide +kernel
theorem d_MP_init_90 : decode (kB K_MP_init) 90 = .ok (.putfield 42, 3) := by decide +kernel
theorem d_MP_init_93 : decode (kB K_MP_init) 93 = .ok (.aload_n 0, 1) := by decide +kernel
theorem d_MP_init_94 : decode (kB K_MP_init) 94 = .ok (.sipush 400, 3) := by decide +kernel
theorem d_MP_init_97 : decode (kB K_MP_init) 97 = .ok (.newarray .int, 2) := by decide +kernel
theorem d_MP_init_99 : decode (kB K_MP_init) 99 = .ok (.putfield 45, 3) := by decide +kernel
theorem d_MP_init_102 : decode (kB K_MP_init) 102 = .ok (.return_, 1) := by decide +kernel
def K_MS_init : KM := (⟨"ParishBoardsModel$State", "<init>", "(LParishBoardsModel;)V"⟩, prog_17_method_1_code, 2, none, "ParishBoardsModel$State", [])
theorem d_MS_init_0 : decode (kB K_MS_init) 0 = .ok (.aload_n 0, 1) := by decide +kernel
theorem d_MS_init_1 : decode (kB K_MS_init) 1 = .ok (.aload_n 1, 1) := by decide +kernel
theorem d_MS_init_2 : decode (kB K_MS_init) 2 = .ok (.putfield 3, 3) := by decide +kernel
theorem d_MS_init_5 : decode (kB K_MS_init) 5 = .ok (.aload_n 0, 1) := by decide +kernel
theorem d_MS_init_6 : decode (kB K_MS_init) 6 = .ok (.invokespecial 9, 3) := by decide +kernel
theorem d_MS_init_9 : decode (kB K_MS_init) 9 = .ok (.aload_n 0, 1) := by decide +kernel
theorem d_MS_init_10 : decode (kB K_MS_init) 10 = .ok (.bipush 60, 2) := by decide +kernel
theorem d_MS_init_12 : decode (kB K_MS_init) 12 = .ok (.newarray .int, 2) := by decide +kernel
theorem d_MS_init_14 : decode (kB K_MS_init) 14 = .ok (.putfield 15, 3) := by decide +kernel
theorem d_MS_init_17 : decode (kB K_MS_init) 17 = .ok (.aload_n 0, 1) := by decide +kernel
theorem d_MS_init_18 : decode (kB K_MS_init) 18 = .ok (.bipush 60, 2) := by decide +kernel
theorem d_MS_init_20 : decode (kB K_MS_init) 20 = .ok (.newarray .int, 2) := by decide +kernel
theorem d_MS_init_22 : decode (kB K_MS_init) 22 = .ok (.putfield 19, 3) := by decide +kernel
theorem d_MS_init_25 : decode (kB K_MS_init) 25 = .ok (.aload_n 0, 1) := by decide +kernel
theorem d_MS_init_26 : decode (kB K_MS_init) 26 = .ok (.bipush 60, 2) := by decide +kernel
theorem d_MS_init_28 : decode (kB K_MS_init) 28 = .ok (.newarray .int, 2) := by decide +kernel
theorem d_MS_init_30 : decode (kB K_MS_init) 30 = .ok (.putfield 22, 3) := by decide +kernel
theorem d_MS_init_33 : decode (kB K_MS_init) 33 = .ok (.aload_n 0, 1) := by decide +kernel
theorem d_MS_init_34 : decode (kB K_MS_init) 34 = .ok (.bipush 60, 2) := by decide +kernel
theorem d_MS_init_36 : decode (kB K_MS_init) 36 = .ok (.newarray .int, 2) := by decide +kernel
theorem d_MS_init_38 : decode (kB K_MS_init) 38 = .ok (.putfield 25, 3) := by decide +kernel
theorem d_MS_init_41 : decode (kB K_MS_init) 41 = .ok (.aload_n 0, 1) := by decide +kernel
theorem d_MS_init_42 : decode (kB K_MS_init) 42 = .ok (.bipush 60, 2) := by decide +kernel
theorem d_MS_init_44 : decode (kB K_MS_init) 44 = .ok (.newarray .int, 2) := by decide +kernel
theorem d_MS_init_46 : decode (kB K_MS_init) 46 = .ok (.putfield 28, 3) := by decide +kernel
theorem d_MS_init_49 : decode (kB K_MS_init) 49 = .ok (.aload_n 0, 1) := by decide +kernel
theorem d_MS_init_50 : decode (kB K_MS_init) 50 = .ok (.bipush 60, 2) := by decide +kernel
theorem d_MS_init_52 : decode (kB K_MS_init) 52 = .ok (.newarray .int, 2) := by decide +kernel
theorem d_MS_init_54 : decode (kB K_MS_init) 54 = .ok (.putfield 31, 3) := by decide +kernel
theorem d_MS_init_57 : decode (kB K_MS_init) 57 = .ok (.aload_n 0, 1) := by decide +kernel
theorem d_MS_init_58 : decode (kB K_MS_init) 58 = .ok (.sipush 300, 3) := by decide +kernel
theorem d_MS_init_61 : decode (kB K_MS_init) 61 = .ok (.newarray .int, 2) := by decide +kernel
theorem d_MS_init_63 : decode (kB K_MS_init) 63 = .ok (.putfield 34, 3) := by decide +kernel
theorem d_MS_init_66 : decode (kB K_MS_init) 66 = .ok (.aload_n 0, 1) := by decide +kernel
theorem d_MS_init_67 : decode (kB K_MS_init) 67 = .ok (.bipush 25, 2) := by decide +kernel
theorem d_MS_init_69 : decode (kB K_MS_init) 69 = .ok (.newarray .int, 2) := by decide +kernel
theorem d_MS_init_71 : decode (kB K_MS_init) 71 = .ok (.putfield 37, 3) := by decide +kernel
theorem d_MS_init_74 : decode (kB K_MS_init) 74 = .ok (.aload_n 0, 1) := by decide +kernel
theorem d_MS_init_75 : decode (kB K_MS_init) 75 = .ok (.sipush 150, 3) := by decide +kernel
theorem d_MS_init_78 : decode (kB K_MS_init) 78 = .ok (.newarray .int, 2) := by decide +kernel
theorem d_MS_init_80 : decode (kB K_MS_init) 80 = .ok (.putfield 40, 3) := by decide +kernel
theorem d_MS_init_83 : decode (kB K_MS_init) 83 = .ok (.aload_n 0, 1) := by decide +kernel
theorem d_MS_init_84 : decode (kB K_MS_init) 84 = .ok (.iconst 5, 1) := by decide +kernel
theorem d_MS_init_85 : decode (kB K_MS_init) 85 = .ok (.newarray .long, 2) := by decide +kernel
theorem d_MS_init_87 : decode (kB K_MS_init) 87 = .ok (.putfield 43, 3) := by decide +kernel
theorem d_MS_init_90 : decode (kB K_MS_init) 90 = .ok (.aload_n 0, 1) := by decide +kernel
theorem d_MS_init_91 : decode (kB K_MS_init) 91 = .ok (.bipush 8, 2) := by decide +kernel
theorem d_MS_init_93 : decode (kB K_MS_init) 93 = .ok (.newarray .int, 2) := by decide +kernel
theorem d_MS_init_95 : decode (kB K_MS_init) 95 = .ok (.putfield 47, 3) := by decide +kernel
theorem d_MS_init_98 : decode (kB K_MS_init) 98 = .ok (.aload_n 0, 1) := by decide +kernel
theorem d_MS_init_99 : decode (kB K_MS_init) 99 = .ok (.bipush 8, 2) := by decide +kernel
theorem d_MS_init_101 : decode (kB K_MS_init) 101 = .ok (.newarray .int, 2) := by decide +kernel
theorem d_MS_init_103 : decode (kB K_MS_init) 103 = .ok (.putfield 50, 3) := by decide +kernel
theorem d_MS_init_106 : decode (kB K_MS_init) 106 = .ok (.aload_n 0, 1) := by decide +kernel
theorem d_MS_init_107 : decode (kB K_MS_init) 107 = .ok (.bipush 8, 2) := by decide +kernel
theorem d_MS_init_109 : decode (kB K_MS_init) 109 = .ok (.newarray .long, 2) := by decide +kernel
theorem d_MS_init_111 : decode (kB K_MS_init) 111 = .ok (.putfield 53, 3) := by decide +kernel
theorem d_MS_init_114 : decode (kB K_MS_init) 114 = .ok (.aload_n 0, 1) := by decide +kernel
theorem d_MS_init_115 : decode (kB K_MS_init) 115 = .ok (.sipush 480, 3) := by decide +kernel
theorem d_MS_init_118 : decode (kB K_MS_init) 118 = .ok (.newarray .int, 2) := by decide +kernel
theorem d_MS_init_120 : decode (kB K_MS_init) 120 = .ok (.putfield 56, 3) := by decide +kernel
theorem d_MS_init_123 : decode (kB K_MS_init) 123 = .ok (.aload_n 0, 1) := by decide +kernel
theorem d_MS_init_124 : decode (kB K_MS_init) 124 = .ok (.sipush 480, 3) := by decide +kernel
theorem d_MS_init_127 : decode (kB K_MS_init) 127 = .ok (.newarray .int, 2) := by decide +kernel
theorem d_MS_init_129 : decode (kB K_MS_init) 129 = .ok (.putfield 59, 3) := by decide +kernel
theorem d_MS_init_132 : decode (kB K_MS_init) 132 = .ok (.aload_n 0, 1) := by decide +kernel
theorem d_MS_init_133 : decode (kB K_MS_init) 133 = .ok (.sipush 480, 3) := by decide +kernel
theorem d_MS_init_136 : decode (kB K_MS_init) 136 = .ok (.newarray .long, 2) := by decide +kernel
theorem d_MS_init_138 : decode (kB K_MS_init) 138 = .ok (.putfield 62, 3) := by decide +kernel
theorem d_MS_init_141 : decode (kB K_MS_init) 141 = .ok (.aload_n 0, 1) := by decide +kernel
theorem d_MS_init_142 : decode (kB K_MS_init) 142 = .ok (.sipush 400, 3) := by decide +kernel
theorem d_MS_init_145 : decode (kB K_MS_init) 145 = .ok (.newarray .int, 2) := by decide +kernel
theorem d_MS_init_147 : decode (kB K_MS_init) 147 = .ok (.putfield 65, 3) := by decide +kernel
theorem d_MS_init_150 : decode (kB K_MS_init) 150 = .ok (.return_, 1) := by decide +kernel
def K_MS_copy : KM := (⟨"ParishBoardsModel$State", "copy", "([I[I)V"⟩, prog_17_method_2_code, 3, none, "ParishBoardsModel$State", [])
theorem d_MS_copy_0 : decode (kB K_MS_copy) 0 = .ok (.aload_n 1, 1) := by decide +kernel
theorem d_MS_copy_1 : decode (kB K_MS_copy) 1 = .ok (.iconst 0, 1) := by decide +kernel
theorem d_MS_copy_2 : decode (kB K_MS_copy) 2 = .ok (.aload_n 2, 1) := by decide +kernel
theorem d_MS_copy_3 : decode (kB K_MS_copy) 3 = .ok (.iconst 0, 1) := by decide +kernel
theorem d_MS_copy_4 : decode (kB K_MS_copy) 4 = .ok (.aload_n 1, 1) := by decide +kernel
theorem d_MS_copy_5 : decode (kB K_MS_copy) 5 = .ok (.arraylength, 1) := by decide +kernel
theorem d_MS_copy_6 : decode (kB K_MS_copy) 6 = .ok (.invokestatic 68, 3) := by decide +kernel
theorem d_MS_copy_9 : decode (kB K_MS_copy) 9 = .ok (.return_, 1) := by decide +kernel
def K_MS_copy_ : KM := (⟨"ParishBoardsModel$State", "copy", "([J[J)V"⟩, prog_17_method_3_code, 3, none, "ParishBoardsModel$State", [])
theorem d_MS_copy__0 : decode (kB K_MS_copy_) 0 = .ok (.aload_n 1, 1) := by decide +kernel
theorem d_MS_copy__1 : decode (kB K_MS_copy_) 1 = .ok (.iconst 0, 1) := by decide +kernel
theorem d_MS_copy__2 : decode (kB K_MS_copy_) 2 = .ok (.aload_n 2, 1) := by decide +kernel
theorem d_MS_copy__3 : decode (kB K_MS_copy_) 3 = .ok (.iconst 0, 1) := by decide +kernel
theorem d_MS_copy__4 : decode (kB K_MS_copy_) 4 = .ok (.aload_n 1, 1) := by decide +kernel
theorem d_MS_copy__5 : decode (kB K_MS_copy_) 5 = .ok (.arraylength, 1) := by decide +kernel
theorem d_MS_copy__6 : decode (kB K_MS_copy_) 6 = .ok (.invokestatic 68, 3) := by decide +kernel
theorem d_MS_copy__9 : decode (kB K_MS_copy_) 9 = .ok (.return_, 1) := by decide +kernel
def K_MS_become : KM := (⟨"ParishBoardsModel$State", "become", "(LParishBoardsModel$State;)LParishBoardsModel$State;"⟩, prog_17_method_4_code, 2, (some (.object "ParishBoardsModel$State")), "ParishBoardsModel$State", [])
theorem d_MS_become_0 : decode (kB K_MS_become) 0 = .ok (.aload_n 0, 1) := by decide +kernel
theorem d_MS_become_1 : decode (kB K_MS_become) 1 = .ok (.aload_n 1, 1) := by decide +kernel
theorem d_MS_become_2 : decode (kB K_MS_become) 2 = .ok (.getfield 74, 3) := by decide +kernel
theorem d_MS_become_5 : decode (kB K_MS_become) 5 = .ok (.putfield 74, 3) := by decide +kernel
theorem d_MS_become_8 : decode (kB K_MS_become) 8 = .ok (.aload_n 0, 1) := by decide +kernel
theorem d_MS_become_9 : decode (kB K_MS_become) 9 = .ok (.aload_n 1, 1) := by decide +kernel
theorem d_MS_become_10 : decode (kB K_MS_become) 10 = .ok (.getfield 78, 3) := by decide +kernel
theorem d_MS_become_13 : decode (kB K_MS_become) 13 = .ok (.putfield 78, 3) := by decide +kernel
theorem d_MS_become_16 : decode (kB K_MS_become) 16 = .ok (.aload_n 0, 1) := by decide +kernel
theorem d_MS_become_17 : decode (kB K_MS_become) 17 = .ok (.aload_n 1, 1) := by decide +kernel
theorem d_MS_become_18 : decode (kB K_MS_become) 18 = .ok (.getfield 81, 3) := by decide +kernel
theorem d_MS_become_21 : decode (kB K_MS_become) 21 = .ok (.putfield 81, 3) := by decide +kernel
theorem d_MS_become_24 : decode (kB K_MS_become) 24 = .ok (.aload_n 0, 1) := by decide +kernel
theorem d_MS_become_25 : decode (kB K_MS_become) 25 = .ok (.aload_n 1, 1) := by decide +kernel
theorem d_MS_become_26 : decode (kB K_MS_become) 26 = .ok (.getfield 84, 3) := by decide +kernel
theorem d_MS_become_29 : decode (kB K_MS_become) 29 = .ok (.putfield 84, 3) := by decide +kernel
theorem d_MS_become_32 : decode (kB K_MS_become) 32 = .ok (.aload_n 0, 1) := by decide +kernel
theorem d_MS_become_33 : decode (kB K_MS_become) 33 = .ok (.aload_n 1, 1) := by decide +kernel
theorem d_MS_become_34 : decode (kB K_MS_become) 34 = .ok (.getfield 87, 3) := by decide +kernel
theorem d_MS_become_37 : decode (kB K_MS_become) 37 = .ok (.putfield 87, 3) := by decide +kernel
theorem d_MS_become_40 : decode (kB K_MS_become) 40 = .ok (.aload_n 0, 1) := by decide +kernel
theorem d_MS_become_41 : decode (kB K_MS_become) 41 = .ok (.aload_n 1, 1) := by decide +kernel
theorem d_MS_become_42 : decode (kB K_MS_become) 42 = .ok (.getfield 90, 3) := by decide +kernel
theorem d_MS_become_45 : decode (kB K_MS_become) 45 = .ok (.putfield 90, 3) := by decide +kernel
theorem d_MS_become_48 : decode (kB K_MS_become) 48 = .ok (.aload_n 0, 1) := by decide +kernel
theorem d_MS_become_49 : decode (kB K_MS_become) 49 = .ok (.aload_n 1, 1) := by decide +kernel
theorem d_MS_become_50 : decode (kB K_MS_become) 50 = .ok (.getfield 15, 3) := by decide +kernel
theorem d_MS_become_53 : decode (kB K_MS_become) 53 = .ok (.aload_n 0, 1) := by decide +kernel
theorem d_MS_become_54 : decode (kB K_MS_become) 54 = .ok (.getfield 15, 3) := by decide +kernel
theorem d_MS_become_57 : decode (kB K_MS_become) 57 = .ok (.invokevirtual 93, 3) := by decide +kernel
theorem d_MS_become_60 : decode (kB K_MS_become) 60 = .ok (.aload_n 0, 1) := by decide +kernel
theorem d_MS_become_61 : decode (kB K_MS_become) 61 = .ok (.aload_n 1, 1) := by decide +kernel
theorem d_MS_become_62 : decode (kB K_MS_become) 62 = .ok (.getfield 19, 3) := by decide +kernel
theorem d_MS_become_65 : decode (kB K_MS_become) 65 = .ok (.aload_n 0, 1) := by decide +kernel
theorem d_MS_become_66 : decode (kB K_MS_become) 66 = .ok (.getfield 19, 3) := by decide +kernel
theorem d_MS_become_69 : decode (kB K_MS_become) 69 = .ok (.invokevirtual 93, 3) := by decide +kernel
theorem d_MS_become_72 : decode (kB K_MS_become) 72 = .ok (.aload_n 0, 1) := by decide +kernel
theorem d_MS_become_73 : decode (kB K_MS_become) 73 = .ok (.aload_n 1, 1) := by decide +kernel
theorem d_MS_become_74 : decode (kB K_MS_become) 74 = .ok (.getfield 22, 3) := by decide +kernel
theorem d_MS_become_77 : decode (kB K_MS_become) 77 = .ok (.aload_n 0, 1) := by decide +kernel
theorem d_MS_become_78 : decode (kB K_MS_become) 78 = .ok (.getfield 22, 3) := by decide +kernel
theorem d_MS_become_81 : decode (kB K_MS_become) 81 = .ok (.invokevirtual 93, 3) := by decide +kernel
theorem d_MS_become_84 : decode (kB K_MS_become) 84 = .ok (.aload_n 0, 1) := by decide +kernel
theorem d_MS_become_85 : decode (kB K_MS_become) 85 = .ok (.aload_n 1, 1) := by decide +kernel
theorem d_MS_become_86 : decode (kB K_MS_become) 86 = .ok (.getfield 25, 3) := by decide +kernel
theorem d_MS_become_89 : decode (kB K_MS_become) 89 = .ok (.aload_n 0, 1) := by decide +kernel
theorem d_MS_become_90 : decode (kB K_MS_become) 90 = .ok (.getfield 25, 3) := by decide +kernel
theorem d_MS_become_93 : decode (kB K_MS_become) 93 = .ok (.invokevirtual 93, 3) := by decide +kernel
theorem d_MS_become_96 : decode (kB K_MS_become) 96 = .ok (.aload_n 0, 1) := by decide +kernel
theorem d_MS_become_97 : decode (kB K_MS_become) 97 = .ok (.aload_n 1, 1) := by decide +kernel
theorem d_MS_become_98 : decode (kB K_MS_become) 98 = .ok (.getfield 28, 3) := by decide +kernel
theorem d_MS_become_101 : decode (kB K_MS_become) 101 = .ok (.aload_n 0, 1) := by decide +kernel
theorem d_MS_become_102 : decode (kB K_MS_become) 102 = .ok (.getfield 28, 3) := by decide +kernel
theorem d_MS_become_105 : decode (kB K_MS_become) 105 = .ok (.invokevirtual 93, 3) := by decide +kernel
theorem d_MS_become_108 : decode (kB K_MS_become) 108 = .ok (.aload_n 0, 1) := by decide +kernel
theorem d_MS_become_109 : decode (kB K_MS_become) 109 = .ok (.aload_n 1, 1) := by decide +kernel
theorem d_MS_become_110 : decode (kB K_MS_become) 110 = .ok (.getfield 31, 3) := by decide +kernel
theorem d_MS_become_113 : decode (kB K_MS_become) 113 = .ok (.aload_n 0, 1) := by decide +kernel
theorem d_MS_become_114 : decode (kB K_MS_become) 114 = .ok (.getfield 31, 3) := by decide +kernel
theorem d_MS_become_117 : decode (kB K_MS_become) 117 = .ok (.invokevirtual 93, 3) := by decide +kernel
theorem d_MS_become_120 : decode (kB K_MS_become) 120 = .ok (.aload_n 0, 1) := by decide +kernel
theorem d_MS_become_121 : decode (kB K_MS_become) 121 = .ok (.aload_n 1, 1) := by decide +kernel
theorem d_MS_become_122 : decode (kB K_MS_become) 122 = .ok (.getfield 34, 3) := by decide +kernel
theorem d_MS_become_125 : decode (kB K_MS_become) 125 = .ok (.aload_n 0, 1) := by decide +kernel
theorem d_MS_become_126 : decode (kB K_MS_become) 126 = .ok (.getfield 34, 3) := by decide +kernel
theorem d_MS_become_129 : decode (kB K_MS_become) 129 = .ok (.invokevirtual 93, 3) := by decide +kernel
theorem d_MS_become_132 : decode (kB K_MS_become) 132 = .ok (.aload_n 0, 1) := by decide +kernel
theorem d_MS_become_133 : decode (kB K_MS_become) 133 = .ok (.aload_n 1, 1) := by decide +kernel
theorem d_MS_become_134 : decode (kB K_MS_become) 134 = .ok (.getfield 37, 3) := by decide +kernel
theorem d_MS_become_137 : decode (kB K_MS_become) 137 = .ok (.aload_n 0, 1) := by decide +kernel
theorem d_MS_become_138 : decode (kB K_MS_become) 138 = .ok (.getfield 37, 3) := by decide +kernel
theorem d_MS_become_141 : decode (kB K_MS_become) 141 = .ok (.invokevirtual 93, 3) := by decide +kernel
theorem d_MS_become_144 : decode (kB K_MS_become) 144 = .ok (.aload_n 0, 1) := by decide +kernel
theorem d_MS_become_145 : decode (kB K_MS_become) 145 = .ok (.aload_n 1, 1) := by decide +kernel
theorem d_MS_become_146 : decode (kB K_MS_become) 146 = .ok (.getfield 40, 3) := by decide +kernel
theorem d_MS_become_149 : decode (kB K_MS_become) 149 = .ok (.aload_n 0, 1) := by decide +kernel
theorem d_MS_become_150 : decode (kB K_MS_become) 150 = .ok (.getfield 40, 3) := by decide +kernel
theorem d_MS_become_153 : decode (kB K_MS_become) 153 = .ok (.invokevirtual 93, 3) := by decide +kernel
theorem d_MS_become_156 : decode (kB K_MS_become) 156 = .ok (.aload_n 0, 1) := by decide +kernel
theorem d_MS_become_157 : decode (kB K_MS_become) 157 = .ok (.aload_n 1, 1) := by decide +kernel
theorem d_MS_become_158 : decode (kB K_MS_become) 158 = .ok (.getfield 43, 3) := by decide +kernel
theorem d_MS_become_161 : decode (kB K_MS_become) 161 = .ok (.aload_n 0, 1) := by decide +kernel
theorem d_MS_become_162 : decode (kB K_MS_become) 162 = .ok (.getfield 43, 3) := by decide +kernel
theorem d_MS_become_165 : decode (kB K_MS_become) 165 = .ok (.invokevirtual 97, 3) := by decide +kernel
theorem d_MS_become_168 : decode (kB K_MS_become) 168 = .ok (.aload_n 0, 1) := by decide +kernel
theorem d_MS_become_169 : decode (kB K_MS_become) 169 = .ok (.aload_n 1, 1) := by decide +kernel
theorem d_MS_become_170 : decode (kB K_MS_become) 170 = .ok (.getfield 47, 3) := by decide +kernel
theorem d_MS_become_173 : decode (kB K_MS_become) 173 = .ok (.aload_n 0, 1) := by decide +kernel
theorem d_MS_become_174 : decode (kB K_MS_become) 174 = .ok (.getfield 47, 3) := by decide +kernel
theorem d_MS_become_177 : decode (kB K_MS_become) 177 = .ok (.invokevirtual 93, 3) := by decide +kernel
theorem d_MS_become_180 : decode (kB K_MS_become) 180 = .ok (.aload_n 0, 1) := by decide +kernel
theorem d_MS_become_181 : decode (kB K_MS_become) 181 = .ok (.aload_n 1, 1) := by decide +kernel
theorem d_MS_become_182 : decode (kB K_MS_become) 182 = .ok (.getfield 50, 3) := by decide +kernel
theorem d_MS_become_185 : decode (kB K_MS_become) 185 = .ok (.aload_n 0, 1) := by decide +kernel
theorem d_MS_become_186 : decode (kB K_MS_become) 186 = .ok (.getfield 50, 3) := by decide +kernel
theorem d_MS_become_189 : decode (kB K_MS_become) 189 = .ok (.invokevirtual 93, 3) := by decide +kernel
theorem d_MS_become_192 : decode (kB K_MS_become) 192 = .ok (.aload_n 0, 1) := by decide +kernel
theorem d_MS_become_193 : decode (kB K_MS_become) 193 = .ok (.aload_n 1, 1) := by decide +kernel
theorem d_MS_become_194 : decode (kB K_MS_become) 194 = .ok (.getfield 53, 3) := by decide +kernel
theorem d_MS_become_197 : decode (kB K_MS_become) 197 = .ok (.aload_n 0, 1) := by decide +kernel
theorem d_MS_become_198 : decode (kB K_MS_become) 198 = .ok (.getfield 53, 3) := by decide +kernel
theorem d_MS_become_201 : decode (kB K_MS_become) 201 = .ok (.invokevirtual 97, 3) := by decide +kernel
theorem d_MS_become_204 : decode (kB K_MS_become) 204 = .ok (.aload_n 0, 1) := by decide +kernel
theorem d_MS_become_205 : decode (kB K_MS_become) 205 = .ok (.aload_n 1, 1) := by decide +kernel
theorem d_MS_become_206 : decode (kB K_MS_become) 206 = .ok (.getfield 56, 3) := by decide +kernel
theorem d_MS_become_209 : decode (kB K_MS_become) 209 = .ok (.aload_n 0, 1) := by decide +kernel
theorem d_MS_become_210 : decode (kB K_MS_become) 210 = .ok (.getfield 56, 3) := by decide +kernel
theorem d_MS_become_213 : decode (kB K_MS_become) 213 = .ok (.invokevirtual 93, 3) := by decide +kernel
theorem d_MS_become_216 : decode (kB K_MS_become) 216 = .ok (.aload_n 0, 1) := by decide +kernel
theorem d_MS_become_217 : decode (kB K_MS_become) 217 = .ok (.aload_n 1, 1) := by decide +kernel
theorem d_MS_become_218 : decode (kB K_MS_become) 218 = .ok (.getfield 59, 3) := by decide +kernel
theorem d_MS_become_221 : decode (kB K_MS_become) 221 = .ok (.aload_n 0, 1) := by decide +kernel
theorem d_MS_become_222 : decode (kB K_MS_become) 222 = .ok (.getfield 59, 3) := by decide +kernel
theorem d_MS_become_225 : decode (kB K_MS_become) 225 = .ok (.invokevirtual 93, 3) := by decide +kernel
theorem d_MS_become_228 : decode (kB K_MS_become) 228 = .ok (.aload_n 0, 1) := by decide +kernel
theorem d_MS_become_229 : decode (kB K_MS_become) 229 = .ok (.aload_n 1, 1) := by decide +kernel
theorem d_MS_become_230 : decode (kB K_MS_become) 230 = .ok (.getfield 62, 3) := by decide +kernel
theorem d_MS_become_233 : decode (kB K_MS_become) 233 = .ok (.aload_n 0, 1) := by decide +kernel
theorem d_MS_become_234 : decode (kB K_MS_become) 234 = .ok (.getfield 62, 3) := by decide +kernel
theorem d_MS_become_237 : decode (kB K_MS_become) 237 = .ok (.invokevirtual 97, 3) := by decide +kernel
theorem d_MS_become_240 : decode (kB K_MS_become) 240 = .ok (.aload_n 0, 1) := by decide +kernel
theorem d_MS_become_241 : decode (kB K_MS_become) 241 = .ok (.areturn, 1) := by decide +kernel
def K_MS_begin : KM := (⟨"ParishBoardsModel$State", "begin", "()V"⟩, prog_17_method_5_code, 2, none, "ParishBoardsModel$State", [])
theorem d_MS_begin_0 : decode (kB K_MS_begin) 0 = .ok (.aload_n 0, 1) := by decide +kernel
theorem d_MS_begin_1 : decode (kB K_MS_begin) 1 = .ok (.iconst 0, 1) := by decide +kernel
theorem d_MS_begin_2 : decode (kB K_MS_begin) 2 = .ok (.putfield 74, 3) := by decide +kernel
theorem d_MS_begin_5 : decode (kB K_MS_begin) 5 = .ok (.aload_n 0, 1) := by decide +kernel
theorem d_MS_begin_6 : decode (kB K_MS_begin) 6 = .ok (.iconst 0, 1) := by decide +kernel
theorem d_MS_begin_7 : decode (kB K_MS_begin) 7 = .ok (.putfield 78, 3) := by decide +kernel
theorem d_MS_begin_10 : decode (kB K_MS_begin) 10 = .ok (.aload_n 0, 1) := by decide +kernel
theorem d_MS_begin_11 : decode (kB K_MS_begin) 11 = .ok (.iconst 0, 1) := by decide +kernel
theorem d_MS_begin_12 : decode (kB K_MS_begin) 12 = .ok (.putfield 81, 3) := by decide +kernel
theorem d_MS_begin_15 : decode (kB K_MS_begin) 15 = .ok (.aload_n 0, 1) := by decide +kernel
theorem d_MS_begin_16 : decode (kB K_MS_begin) 16 = .ok (.iconst 0, 1) := by decide +kernel
theorem d_MS_begin_17 : decode (kB K_MS_begin) 17 = .ok (.putfield 84, 3) := by decide +kernel
theorem d_MS_begin_20 : decode (kB K_MS_begin) 20 = .ok (.aload_n 0, 1) := by decide +kernel
theorem d_MS_begin_21 : decode (kB K_MS_begin) 21 = .ok (.iconst 0, 1) := by decide +kernel
theorem d_MS_begin_22 : decode (kB K_MS_begin) 22 = .ok (.putfield 87, 3) := by decide +kernel
theorem d_MS_begin_25 : decode (kB K_MS_begin) 25 = .ok (.aload_n 0, 1) := by decide +kernel
theorem d_MS_begin_26 : decode (kB K_MS_begin) 26 = .ok (.iconst 0, 1) := by decide +kernel
theorem d_MS_begin_27 : decode (kB K_MS_begin) 27 = .ok (.putfield 90, 3) := by decide +kernel
theorem d_MS_begin_30 : decode (kB K_MS_begin) 30 = .ok (.iconst 0, 1) := by decide +kernel
theorem d_MS_begin_31 : decode (kB K_MS_begin) 31 = .ok (.istore_n 1, 1) := by decide +kernel
theorem d_MS_begin_32 : decode (kB K_MS_begin) 32 = .ok (.iload_n 1, 1) := by decide +kernel
theorem d_MS_begin_33 : decode (kB K_MS_begin) 33 = .ok (.aload_n 0, 1) := by decide +kernel
theorem d_MS_begin_34 : decode (kB K_MS_begin) 34 = .ok (.getfield 37, 3) := by decide +kernel
theorem d_MS_begin_37 : decode (kB K_MS_begin) 37 = .ok (.arraylength, 1) := by decide +kernel
theorem d_MS_begin_38 : decode (kB K_MS_begin) 38 = .ok (.if_icmp .ge 16, 3) := by decide +kernel
theorem d_MS_begin_41 : decode (kB K_MS_begin) 41 = .ok (.aload_n 0, 1) := by decide +kernel
theorem d_MS_begin_42 : decode (kB K_MS_begin) 42 = .ok (.getfield 37, 3) := by decide +kernel
theorem d_MS_begin_45 : decode (kB K_MS_begin) 45 = .ok (.iload_n 1, 1) := by decide +kernel
theorem d_MS_begin_46 : decode (kB K_MS_begin) 46 = .ok (.iconst 0, 1) := by decide +kernel
theorem d_MS_begin_47 : decode (kB K_MS_begin) 47 = .ok (.iastore, 1) := by decide +kernel
theorem d_MS_begin_48 : decode (kB K_MS_begin) 48 = .ok (.iinc 1 1, 3) := by decide +kernel
theorem d_MS_begin_51 : decode (kB K_MS_begin) 51 = .ok (.goto (-19), 3) := by decide +kernel
theorem d_MS_begin_54 : decode (kB K_MS_begin) 54 = .ok (.iconst 0, 1) := by decide +kernel
theorem d_MS_begin_55 : decode (kB K_MS_begin) 55 = .ok (.istore_n 1, 1) := by decide +kernel
theorem d_MS_begin_56 : decode (kB K_MS_begin) 56 = .ok (.iload_n 1, 1) := by decide +kernel
theorem d_MS_begin_57 : decode (kB K_MS_begin) 57 = .ok (.aload_n 0, 1) := by decide +kernel
theorem d_MS_begin_58 : decode (kB K_MS_begin) 58 = .ok (.getfield 40, 3) := by decide +kernel
theorem d_MS_begin_61 : decode (kB K_MS_begin) 61 = .ok (.arraylength, 1) := by decide +kernel
theorem d_MS_begin_62 : decode (kB K_MS_begin) 62 = .ok (.if_icmp .ge 16, 3) := by decide +kernel
theorem d_MS_begin_65 : decode (kB K_MS_begin) 65 = .ok (.aload_n 0, 1) := by decide +kernel
theorem d_MS_begin_66 : decode (kB K_MS_begin) 66 = .ok (.getfield 40, 3) := by decide +kernel
theorem d_MS_begin_69 : decode (kB K_MS_begin) 69 = .ok (.iload_n 1, 1) := by decide +kernel
theorem d_MS_begin_70 : decode (kB K_MS_begin) 70 = .ok (.iconst (-1), 1) := by decide +kernel
theorem d_MS_begin_71 : decode (kB K_MS_begin) 71 = .ok (.iastore, 1) := by decide +kernel
theorem d_MS_begin_72 : decode (kB K_MS_begin) 72 = .ok (.iinc 1 1, 3) := by decide +kernel
theorem d_MS_begin_75 : decode (kB K_MS_begin) 75 = .ok (.goto (-19), 3) := by decide +kernel
theorem d_MS_begin_78 : decode (kB K_MS_begin) 78 = .ok (.iconst 0, 1) := by decide +kernel
theorem d_MS_begin_79 : decode (kB K_MS_begin) 79 = .ok (.istore_n 1, 1) := by decide +kernel
theorem d_MS_begin_80 : decode (kB K_MS_begin) 80 = .ok (.iload_n 1, 1) := by decide +kernel
theorem d_MS_begin_81 : decode (kB K_MS_begin) 81 = .ok (.iconst 5, 1) := by decide +kernel
theorem d_MS_begin_82 : decode (kB K_MS_begin) 82 = .ok (.if_icmp .ge 16, 3) := by decide +kernel
theorem d_MS_begin_85 : decode (kB K_MS_begin) 85 = .ok (.aload_n 0, 1) := by decide +kernel
theorem d_MS_begin_86 : decode (kB K_MS_begin) 86 = .ok (.getfield 43, 3) := by decide +kernel
theorem d_MS_begin_89 : decode (kB K_MS_begin) 89 = .ok (.iload_n 1, 1) := by decide +kernel
theorem d_MS_begin_90 : decode (kB K_MS_begin) 90 = .ok (.lconst 0, 1) := by decide +kernel
theorem d_MS_begin_91 : decode (kB K_MS_begin) 91 = .ok (.lastore, 1) := by decide +kernel
theorem d_MS_begin_92 : decode (kB K_MS_begin) 92 = .ok (.iinc 1 1, 3) := by decide +kernel
theorem d_MS_begin_95 : decode (kB K_MS_begin) 95 = .ok (.goto (-15), 3) := by decide +kernel
theorem d_MS_begin_98 : decode (kB K_MS_begin) 98 = .ok (.aload_n 0, 1) := by decide +kernel
theorem d_MS_begin_99 : decode (kB K_MS_begin) 99 = .ok (.aload_n 0, 1) := by decide +kernel
theorem d_MS_begin_100 : decode (kB K_MS_begin) 100 = .ok (.getfield 3, 3) := by decide +kernel
theorem d_MS_begin_103 : decode (kB K_MS_begin) 103 = .ok (.getfield 100, 3) := by decide +kernel
theorem d_MS_begin_106 : decode (kB K_MS_begin) 106 = .ok (.getfield 104, 3) := by decide +kernel
theorem d_MS_begin_109 : decode (kB K_MS_begin) 109 = .ok (.aload_n 0, 1) := by decide +kernel
theorem d_MS_begin_110 : decode (kB K_MS_begin) 110 = .ok (.getfield 47, 3) := by decide +kernel
theorem d_MS_begin_113 : decode (kB K_MS_begin) 113 = .ok (.invokevirtual 93, 3) := by decide +kernel
theorem d_MS_begin_116 : decode (kB K_MS_begin) 116 = .ok (.iconst 0, 1) := by decide +kernel
theorem d_MS_begin_117 : decode (kB K_MS_begin) 117 = .ok (.istore_n 1, 1) := by decide +kernel
theorem d_MS_begin_118 : decode (kB K_MS_begin) 118 = .ok (.iload_n 1, 1) := by decide +kernel
theorem d_MS_begin_119 : decode (kB K_MS_begin) 119 = .ok (.bipush 8, 2) := by decide +kernel
theorem d_MS_begin_121 : decode (kB K_MS_begin) 121 = .ok (.if_icmp .ge 23, 3) := by decide +kernel
theorem d_MS_begin_124 : decode (kB K_MS_begin) 124 = .ok (.aload_n 0, 1) := by decide +kernel
theorem d_MS_begin_125 : decode (kB K_MS_begin) 125 = .ok (.getfield 50, 3) := by decide +kernel
theorem d_MS_begin_128 : decode (kB K_MS_begin) 128 = .ok (.iload_n 1, 1) := by decide +kernel
theorem d_MS_begin_129 : decode (kB K_MS_begin) 129 = .ok (.iconst 0, 1) := by decide +kernel
theorem d_MS_begin_130 : decode (kB K_MS_begin) 130 = .ok (.iastore, 1) := by decide +kernel
theorem d_MS_begin_131 : decode (kB K_MS_begin) 131 = .ok (.aload_n 0, 1) := by decide +kernel
theorem d_MS_begin_132 : decode (kB K_MS_begin) 132 = .ok (.getfield 53, 3) := by decide +kernel
theorem d_MS_begin_135 : decode (kB K_MS_begin) 135 = .ok (.iload_n 1, 1) := by decide +kernel
theorem d_MS_begin_136 : decode (kB K_MS_begin) 136 = .ok (.lconst 0, 1) := by decide +kernel
theorem d_MS_begin_137 : decode (kB K_MS_begin) 137 = .ok (.lastore, 1) := by decide +kernel
theorem d_MS_begin_138 : decode (kB K_MS_begin) 138 = .ok (.iinc 1 1, 3) := by decide +kernel
theorem d_MS_begin_141 : decode (kB K_MS_begin) 141 = .ok (.goto (-23), 3) := by decide +kernel
theorem d_MS_begin_144 : decode (kB K_MS_begin) 144 = .ok (.return_, 1) := by decide +kernel
def K_MS_stampOf : KM := (⟨"ParishBoardsModel$State", "stampOf", "(II)I"⟩, prog_17_method_6_code, 3, (some (.int)), "ParishBoardsModel$State", [])
theorem d_MS_stampOf_0 : decode (kB K_MS_stampOf) 0 = .ok (.aload_n 0, 1) := by decide +kernel
theorem d_MS_stampOf_1 : decode (kB K_MS_stampOf) 1 = .ok (.getfield 34, 3) := by decide +kernel
theorem d_MS_stampOf_4 : decode (kB K_MS_stampOf) 4 = .ok (.iconst 5, 1) := by decide +kernel
theorem d_MS_stampOf_5 : decode (kB K_MS_stampOf) 5 = .ok (.iload_n 1, 1) := by decide +kernel
theorem d_MS_stampOf_6 : decode (kB K_MS_stampOf) 6 = .ok (.imul, 1) := by decide +kernel
theorem d_MS_stampOf_7 : decode (kB K_MS_stampOf) 7 = .ok (.iload_n 2, 1) := by decide +kernel
theorem d_MS_stampOf_8 : decode (kB K_MS_stampOf) 8 = .ok (.iadd, 1) := by decide +kernel
theorem d_MS_stampOf_9 : decode (kB K_MS_stampOf) 9 = .ok (.iaload, 1) := by decide +kernel
theorem d_MS_stampOf_10 : decode (kB K_MS_stampOf) 10 = .ok (.ireturn, 1) := by decide +kernel
def K_MS_numberOf : KM := (⟨"ParishBoardsModel$State", "numberOf", "(II)I"⟩, prog_17_method_7_code, 3, (some (.int)), "ParishBoardsModel$State", [])
theorem d_MS_numberOf_0 : decode (kB K_MS_numberOf) 0 = .ok (.aload_n 0, 1) := by decide +kernel
theorem d_MS_numberOf_1 : decode (kB K_MS_numberOf) 1 = .ok (.getfield 37, 3) := by decide +kernel
theorem d_MS_numberOf_4 : decode (kB K_MS_numberOf) 4 = .ok (.iconst 5, 1) := by decide +kernel
theorem d_MS_numberOf_5 : decode (kB K_MS_numberOf) 5 = .ok (.iload_n 1, 1) := by decide +kernel
theorem d_MS_numberOf_6 : decode (kB K_MS_numberOf) 6 = .ok (.imul, 1) := by decide +kernel
theorem d_MS_numberOf_7 : decode (kB K_MS_numberOf) 7 = .ok (.iload_n 2, 1) := by decide +kernel
theorem d_MS_numberOf_8 : decode (kB K_MS_numberOf) 8 = .ok (.iadd, 1) := by decide +kernel
theorem d_MS_numberOf_9 : decode (kB K_MS_numberOf) 9 = .ok (.iaload, 1) := by decide +kernel
theorem d_MS_numberOf_10 : decode (kB K_MS_numberOf) 10 = .ok (.ireturn, 1) := by decide +kernel
def K_MS_knows : KM := (⟨"ParishBoardsModel$State", "knows", "(II)Z"⟩, prog_17_method_8_code, 3, (some (.boolean)), "ParishBoardsModel$State", [])
theorem d_MS_knows_0 : decode (kB K_MS_knows) 0 = .ok (.aload_n 0, 1) := by decide +kernel
theorem d_MS_knows_1 : decode (kB K_MS_knows) 1 = .ok (.iload_n 2, 1) := by decide +kernel
theorem d_MS_knows_2 : decode (kB K_MS_knows) 2 = .ok (.aload_n 0, 1) := by decide +kernel
theorem d_MS_knows_3 : decode (kB K_MS_knows) 3 = .ok (.getfield 15, 3) := by decide +kernel
theorem d_MS_knows_6 : decode (kB K_MS_knows) 6 = .ok (.iload_n 2, 1) := by decide +kernel
theorem d_MS_knows_7 : decode (kB K_MS_knows) 7 = .ok (.iaload, 1) := by decide +kernel
theorem d_MS_knows_8 : decode (kB K_MS_knows) 8 = .ok (.invokevirtual 107, 3) := by decide +kernel
theorem d_MS_knows_11 : decode (kB K_MS_knows) 11 = .ok (.aload_n 0, 1) := by decide +kernel
theorem d_MS_knows_12 : decode (kB K_MS_knows) 12 = .ok (.iload_n 1, 1) := by decide +kernel
theorem d_MS_knows_13 : decode (kB K_MS_knows) 13 = .ok (.aload_n 0, 1) := by decide +kernel
theorem d_MS_knows_14 : decode (kB K_MS_knows) 14 = .ok (.getfield 15, 3) := by decide +kernel
theorem d_MS_knows_17 : decode (kB K_MS_knows) 17 = .ok (.iload_n 2, 1) := by decide +kernel
theorem d_MS_knows_18 : decode (kB K_MS_knows) 18 = .ok (.iaload, 1) := by decide +kernel
theorem d_MS_knows_19 : decode (kB K_MS_knows) 19 = .ok (.invokevirtual 111, 3) := by decide +kernel
theorem d_MS_knows_22 : decode (kB K_MS_knows) 22 = .ok (.if_icmp .gt 7, 3) := by decide +kernel
theorem d_MS_knows_25 : decode (kB K_MS_knows) 25 = .ok (.iconst 1, 1) := by decide +kernel
theorem d_MS_knows_26 : decode (kB K_MS_knows) 26 = .ok (.goto 4, 3) := by decide +kernel
theorem d_MS_knows_29 : decode (kB K_MS_knows) 29 = .ok (.iconst 0, 1) := by decide +kernel
theorem d_MS_knows_30 : decode (kB K_MS_knows) 30 = .ok (.ireturn, 1) := by decide +kernel
def K_MS_isAhead : KM := (⟨"ParishBoardsModel$State", "isAhead", "(II)Z"⟩, prog_17_method_9_code, 3, (some (.boolean)), "ParishBoardsModel$State", [])
theorem d_MS_isAhead_0 : decode (kB K_MS_isAhead) 0 = .ok (.aload_n 0, 1) := by decide +kernel
theorem d_MS_isAhead_1 : decode (kB K_MS_isAhead) 1 = .ok (.iload_n 2, 1) := by decide +kernel
theorem d_MS_isAhead_2 : decode (kB K_MS_isAhead) 2 = .ok (.aload_n 0, 1) := by decide +kernel
theorem d_MS_isAhead_3 : decode (kB K_MS_isAhead) 3 = .ok (.getfield 15, 3) := by decide +kernel
theorem d_MS_isAhead_6 : decode (kB K_MS_isAhead) 6 = .ok (.iload_n 1, 1) := by decide +kernel
theorem d_MS_isAhead_7 : decode (kB K_MS_isAhead) 7 = .ok (.iaload, 1) := by decide +kernel
theorem d_MS_isAhead_8 : decode (kB K_MS_isAhead) 8 = .ok (.invokevirtual 107, 3) := by decide +kernel
theorem d_MS_isAhead_11 : decode (kB K_MS_isAhead) 11 = .ok (.aload_n 0, 1) := by decide +kernel
theorem d_MS_isAhead_12 : decode (kB K_MS_isAhead) 12 = .ok (.iload_n 1, 1) := by decide +kernel
theorem d_MS_isAhead_13 : decode (kB K_MS_isAhead) 13 = .ok (.aload_n 0, 1) := by decide +kernel
theorem d_MS_isAhead_14 : decode (kB K_MS_isAhead) 14 = .ok (.getfield 15, 3) := by decide +kernel
theorem d_MS_isAhead_17 : decode (kB K_MS_isAhead) 17 = .ok (.iload_n 1, 1) := by decide +kernel
theorem d_MS_isAhead_18 : decode (kB K_MS_isAhead) 18 = .ok (.iaload, 1) := by decide +kernel
theorem d_MS_isAhead_19 : decode (kB K_MS_isAhead) 19 = .ok (.invokevirtual 107, 3) := by decide +kernel
theorem d_MS_isAhead_22 : decode (kB K_MS_isAhead) 22 = .ok (.if_icmp .lt 7, 3) := by decide +kernel
theorem d_MS_isAhead_25 : decode (kB K_MS_isAhead) 25 = .ok (.iconst 1, 1) := by decide +kernel
theorem d_MS_isAhead_26 : decode (kB K_MS_isAhead) 26 = .ok (.goto 4, 3) := by decide +kernel
theorem d_MS_isAhead_29 : decode (kB K_MS_isAhead) 29 = .ok (.iconst 0, 1) := by decide +kernel
theorem d_MS_isAhead_30 : decode (kB K_MS_isAhead) 30 = .ok (.ireturn, 1) := by decide +kernel
def K_MS_spot : KM := (⟨"ParishBoardsModel$State", "spot", "(III)I"⟩, prog_17_method_10_code, 4, (some (.int)), "ParishBoardsModel$State", [])
theorem d_MS_spot_0 : decode (kB K_MS_spot) 0 = .ok (.iconst 5, 1) := by decide +kernel
theorem d_MS_spot_1 : decode (kB K_MS_spot) 1 = .ok (.bipush 6, 2) := by decide +kernel
theorem d_MS_spot_3 : decode (kB K_MS_spot) 3 = .ok (.iload_n 1, 1) := by decide +kernel
theorem d_MS_spot_4 : decode (kB K_MS_spot) 4 = .ok (.imul, 1) := by decide +kernel
theorem d_MS_spot_5 : decode (kB K_MS_spot) 5 = .ok (.iload_n 2, 1) := by decide +kernel
theorem d_MS_spot_6 : decode (kB K_MS_spot) 6 = .ok (.iadd, 1) := by decide +kernel
theorem d_MS_spot_7 : decode (kB K_MS_spot) 7 = .ok (.imul, 1) := by decide +kernel
theorem d_MS_spot_8 : decode (kB K_MS_spot) 8 = .ok (.iload_n 3, 1) := by decide +kernel
theorem d_MS_spot_9 : decode (kB K_MS_spot) 9 = .ok (.iadd, 1) := by decide +kernel
theorem d_MS_spot_10 : decode (kB K_MS_spot) 10 = .ok (.ireturn, 1) := by decide +kernel
def K_MS_shows : KM := (⟨"ParishBoardsModel$State", "shows", "(II)I"⟩, prog_17_method_11_code, 5, (some (.int)), "ParishBoardsModel$State", [])
theorem d_MS_shows_0 : decode (kB K_MS_shows) 0 = .ok (.iconst 0, 1) := by decide +kernel
theorem d_MS_shows_1 : decode (kB K_MS_shows) 1 = .ok (.istore_n 3, 1) := by decide +kernel
theorem d_MS_shows_2 : decode (kB K_MS_shows) 2 = .ok (.iconst 0, 1) := by decide +kernel
theorem d_MS_shows_3 : decode (kB K_MS_shows) 3 = .ok (.istore 4, 2) := by decide +kernel
theorem d_MS_shows_5 : decode (kB K_MS_shows) 5 = .ok (.iload 4, 2) := by decide +kernel
theorem d_MS_shows_7 : decode (kB K_MS_shows) 7 = .ok (.aload_n 0, 1) := by decide +kernel
theorem d_MS_shows_8 : decode (kB K_MS_shows) 8 = .ok (.getfield 3, 3) := by decide +kernel
theorem d_MS_shows_11 : decode (kB K_MS_shows) 11 = .ok (.getfield 100, 3) := by decide +kernel
theorem d_MS_shows_14 : decode (kB K_MS_shows) 14 = .ok (.getfield 114, 3) := by decide +kernel
theorem d_MS_shows_17 : decode (kB K_MS_shows) 17 = .ok (.if_icmp .ge 34, 3) := by decide +kernel
theorem d_MS_shows_20 : decode (kB K_MS_shows) 20 = .ok (.iload_n 3, 1) := by decide +kernel
theorem d_MS_shows_21 : decode (kB K_MS_shows) 21 = .ok (.aload_n 0, 1) := by decide +kernel
theorem d_MS_shows_22 : decode (kB K_MS_shows) 22 = .ok (.getfield 40, 3) := by decide +kernel
theorem d_MS_shows_25 : decode (kB K_MS_shows) 25 = .ok (.aload_n 0, 1) := by decide +kernel
theorem d_MS_shows_26 : decode (kB K_MS_shows) 26 = .ok (.iload_n 1, 1) := by decide +kernel
theorem d_MS_shows_27 : decode (kB K_MS_shows) 27 = .ok (.iload_n 2, 1) := by decide +kernel
theorem d_MS_shows_28 : decode (kB K_MS_shows) 28 = .ok (.iload 4, 2) := by decide +kernel
theorem d_MS_shows_30 : decode (kB K_MS_shows) 30 = .ok (.invokevirtual 117, 3) := by decide +kernel
theorem d_MS_shows_33 : decode (kB K_MS_shows) 33 = .ok (.iaload, 1) := by decide +kernel
theorem d_MS_shows_34 : decode (kB K_MS_shows) 34 = .ok (.iconst (-1), 1) := by decide +kernel
theorem d_MS_shows_35 : decode (kB K_MS_shows) 35 = .ok (.if_icmp .ne 7, 3) := by decide +kernel
theorem d_MS_shows_38 : decode (kB K_MS_shows) 38 = .ok (.iconst 0, 1) := by decide +kernel
theorem d_MS_shows_39 : decode (kB K_MS_shows) 39 = .ok (.goto 4, 3) := by decide +kernel
theorem d_MS_shows_42 : decode (kB K_MS_shows) 42 = .ok (.iconst 1, 1) := by decide +kernel
theorem d_MS_shows_43 : decode (kB K_MS_shows) 43 = .ok (.iadd, 1) := by decide +kernel
theorem d_MS_shows_44 : decode (kB K_MS_shows) 44 = .ok (.istore_n 3, 1) := by decide +kernel
theorem d_MS_shows_45 : decode (kB K_MS_shows) 45 = .ok (.iinc 4 1, 3) := by decide +kernel
theorem d_MS_shows_48 : decode (kB K_MS_shows) 48 = .ok (.goto (-43), 3) := by decide +kernel
theorem d_MS_shows_51 : decode (kB K_MS_shows) 51 = .ok (.iload_n 3, 1) := by decide +kernel
theorem d_MS_shows_52 : decode (kB K_MS_shows) 52 = .ok (.ireturn, 1) := by decide +kernel
def K_MS_shown : KM := (⟨"ParishBoardsModel$State", "shown", "(III)I"⟩, prog_17_method_12_code, 7, (some (.int)), "ParishBoardsModel$State", [])
theorem d_MS_shown_0 : decode (kB K_MS_shown) 0 = .ok (.iload_n 3, 1) := by decide +kernel
theorem d_MS_shown_1 : decode (kB K_MS_shown) 1 = .ok (.istore 4, 2) := by decide +kernel
theorem d_MS_shown_3 : decode (kB K_MS_shown) 3 = .ok (.iconst 0, 1) := by decide +kernel
theorem d_MS_shown_4 : decode (kB K_MS_shown) 4 = .ok (.istore 5, 2) := by decide +kernel
theorem d_MS_shown_6 : decode (kB K_MS_shown) 6 = .ok (.iload 5, 2) := by decide +kernel
theorem d_MS_shown_8 : decode (kB K_MS_shown) 8 = .ok (.aload_n 0, 1) := by decide +kernel
theorem d_MS_shown_9 : decode (kB K_MS_shown) 9 = .ok (.getfield 3, 3) := by decide +kernel
theorem d_MS_shown_12 : decode (kB K_MS_shown) 12 = .ok (.getfield 100, 3) := by decide +kernel
theorem d_MS_shown_15 : decode (kB K_MS_shown) 15 = .ok (.getfield 114, 3) := by decide +kernel
theorem d_MS_shown_18 : decode (kB K_MS_shown) 18 = .ok (.if_icmp .ge 44, 3) := by decide +kernel
theorem d_MS_shown_21 : decode (kB K_MS_shown) 21 = .ok (.aload_n 0, 1) := by decide +kernel
theorem d_MS_shown_22 : decode (kB K_MS_shown) 22 = .ok (.getfield 40, 3) := by decide +kernel
theorem d_MS_shown_25 : decode (kB K_MS_shown) 25 = .ok (.aload_n 0, 1) := by decide +kernel
theorem d_MS_shown_26 : decode (kB K_MS_shown) 26 = .ok (.iload_n 1, 1) := by decide +kernel
theorem d_MS_shown_27 : decode (kB K_MS_shown) 27 = .ok (.iload_n 2, 1) := by decide +kernel
theorem d_MS_shown_28 : decode (kB K_MS_shown) 28 = .ok (.iload 5, 2) := by decide +kernel
theorem d_MS_shown_30 : decode (kB K_MS_shown) 30 = .ok (.invokevirtual 117, 3) := by decide +kernel
theorem d_MS_shown_33 : decode (kB K_MS_shown) 33 = .ok (.iaload, 1) := by decide +kernel
theorem d_MS_shown_34 : decode (kB K_MS_shown) 34 = .ok (.istore 6, 2) := by decide +kernel
theorem d_MS_shown_36 : decode (kB K_MS_shown) 36 = .ok (.iload 6, 2) := by decide +kernel
theorem d_MS_shown_38 : decode (kB K_MS_shown) 38 = .ok (.iconst (-1), 1) := by decide +kernel
theorem d_MS_shown_39 : decode (kB K_MS_shown) 39 = .ok (.if_icmp .ne 6, 3) := by decide +kernel
theorem d_MS_shown_42 : decode (kB K_MS_shown) 42 = .ok (.goto 14, 3) := by decide +kernel
theorem d_MS_shown_45 : decode (kB K_MS_shown) 45 = .ok (.iload 4, 2) := by decide +kernel
theorem d_MS_shown_47 : decode (kB K_MS_shown) 47 = .ok (.ifCond .ne 6, 3) := by decide +kernel
theorem d_MS_shown_50 : decode (kB K_MS_shown) 50 = .ok (.iload 6, 2) := by decide +kernel
theorem d_MS_shown_52 : decode (kB K_MS_shown) 52 = .ok (.ireturn, 1) := by decide +kernel
theorem d_MS_shown_53 : decode (kB K_MS_shown) 53 = .ok (.iinc 4 (-1), 3) := by decide +kernel
theorem d_MS_shown_56 : decode (kB K_MS_shown) 56 = .ok (.iinc 5 1, 3) := by decide +kernel
theorem d_MS_shown_59 : decode (kB K_MS_shown) 59 = .ok (.goto (-53), 3) := by decide +kernel
theorem d_MS_shown_62 : decode (kB K_MS_shown) 62 = .ok (.iconst (-1), 1) := by decide +kernel
theorem d_MS_shown_63 : decode (kB K_MS_shown) 63 = .ok (.ireturn, 1) := by decide +kernel
def K_MS_marksOf : KM := (⟨"ParishBoardsModel$State", "marksOf", "(II)I"⟩, prog_17_method_13_code, 5, (some (.int)), "ParishBoardsModel$State", [])
theorem d_MS_marksOf_0 : decode (kB K_MS_marksOf) 0 = .ok (.iconst 0, 1) := by decide +kernel
theorem d_MS_marksOf_1 : decode (kB K_MS_marksOf) 1 = .ok (.istore_n 3, 1) := by decide +kernel
theorem d_MS_marksOf_2 : decode (kB K_MS_marksOf) 2 = .ok (.iconst 0, 1) := by decide +kernel
theorem d_MS_marksOf_3 : decode (kB K_MS_marksOf) 3 = .ok (.istore 4, 2) := by decide +kernel
theorem d_MS_marksOf_5 : decode (kB K_MS_marksOf) 5 = .ok (.iload 4, 2) := by decide +kernel
theorem d_MS_marksOf_7 : decode (kB K_MS_marksOf) 7 = .ok (.aload_n 0, 1) := by decide +kernel
theorem d_MS_marksOf_8 : decode (kB K_MS_marksOf) 8 = .ok (.iload_n 1, 1) := by decide +kernel
theorem d_MS_marksOf_9 : decode (kB K_MS_marksOf) 9 = .ok (.iload_n 2, 1) := by decide +kernel
theorem d_MS_marksOf_10 : decode (kB K_MS_marksOf) 10 = .ok (.invokevirtual 121, 3) := by decide +kernel
theorem d_MS_marksOf_13 : decode (kB K_MS_marksOf) 13 = .ok (.if_icmp .ge 25, 3) := by decide +kernel
theorem d_MS_marksOf_16 : decode (kB K_MS_marksOf) 16 = .ok (.iload_n 3, 1) := by decide +kernel
theorem d_MS_marksOf_17 : decode (kB K_MS_marksOf) 17 = .ok (.aload_n 0, 1) := by decide +kernel
theorem d_MS_marksOf_18 : decode (kB K_MS_marksOf) 18 = .ok (.getfield 25, 3) := by decide +kernel
theorem d_MS_marksOf_21 : decode (kB K_MS_marksOf) 21 = .ok (.aload_n 0, 1) := by decide +kernel
theorem d_MS_marksOf_22 : decode (kB K_MS_marksOf) 22 = .ok (.iload_n 1, 1) := by decide +kernel
theorem d_MS_marksOf_23 : decode (kB K_MS_marksOf) 23 = .ok (.iload_n 2, 1) := by decide +kernel
theorem d_MS_marksOf_24 : decode (kB K_MS_marksOf) 24 = .ok (.iload 4, 2) := by decide +kernel
theorem d_MS_marksOf_26 : decode (kB K_MS_marksOf) 26 = .ok (.invokevirtual 124, 3) := by decide +kernel
theorem d_MS_marksOf_29 : decode (kB K_MS_marksOf) 29 = .ok (.iaload, 1) := by decide +kernel
theorem d_MS_marksOf_30 : decode (kB K_MS_marksOf) 30 = .ok (.ior, 1) := by decide +kernel
theorem d_MS_marksOf_31 : decode (kB K_MS_marksOf) 31 = .ok (.istore_n 3, 1) := by decide +kernel
theorem d_MS_marksOf_32 : decode (kB K_MS_marksOf) 32 = .ok (.iinc 4 1, 3) := by decide +kernel
theorem d_MS_marksOf_35 : decode (kB K_MS_marksOf) 35 = .ok (.goto (-30), 3) := by decide +kernel
theorem d_MS_marksOf_38 : decode (kB K_MS_marksOf) 38 = .ok (.iload_n 3, 1) := by decide +kernel
theorem d_MS_marksOf_39 : decode (kB K_MS_marksOf) 39 = .ok (.ireturn, 1) := by decide +kernel
def K_MS_waits : KM := (⟨"ParishBoardsModel$State", "waits", "(I)I"⟩, prog_17_method_14_code, 2, (some (.int)), "ParishBoardsModel$State", [])
theorem d_MS_waits_0 : decode (kB K_MS_waits) 0 = .ok (.aload_n 0, 1) := by decide +kernel
theorem d_MS_waits_1 : decode (kB K_MS_waits) 1 = .ok (.getfield 43, 3) := by decide +kernel
theorem d_MS_waits_4 : decode (kB K_MS_waits) 4 = .ok (.iload_n 1, 1) := by decide +kernel
theorem d_MS_waits_5 : decode (kB K_MS_waits) 5 = .ok (.laload, 1) := by decide +kernel
theorem d_MS_waits_6 : decode (kB K_MS_waits) 6 = .ok (.invokestatic 127, 3) := by decide +kernel
theorem d_MS_waits_9 : decode (kB K_MS_waits) 9 = .ok (.ireturn, 1) := by decide +kernel
def K_MS_make : KM := (⟨"ParishBoardsModel$State", "make", "(IIIII)I"⟩, prog_17_method_15_code, 8, (some (.int)), "ParishBoardsModel$State", [])
theorem d_MS_make_0 : decode (kB K_MS_make) 0 = .ok (.aload_n 0, 1) := by decide +kernel
theorem d_MS_make_1 : decode (kB K_MS_make) 1 = .ok (.getfield 78, 3) := by decide +kernel
theorem d_MS_make_4 : decode (kB K_MS_make) 4 = .ok (.istore 6, 2) := by decide +kernel
theorem d_MS_make_6 : decode (kB K_MS_make) 6 = .ok (.aload_n 0, 1) := by decide +kernel
theorem d_MS_make_7 : decode (kB K_MS_make) 7 = .ok (.dup, 1) := by decide +kernel
theorem d_MS_make_8 : decode (kB K_MS_make) 8 = .ok (.getfield 78, 3) := by decide +kernel
theorem d_MS_make_11 : decode (kB K_MS_make) 11 = .ok (.iconst 1, 1) := by decide +kernel
theorem d_MS_make_12 : decode (kB K_MS_make) 12 = .ok (.iadd, 1) := by decide +kernel
theorem d_MS_make_13 : decode (kB K_MS_make) 13 = .ok (.putfield 78, 3) := by decide +kernel
theorem d_MS_make_16 : decode (kB K_MS_make) 16 = .ok (.aload_n 0, 1) := by decide +kernel
theorem d_MS_make_17 : decode (kB K_MS_make) 17 = .ok (.getfield 37, 3) := by decide +kernel
theorem d_MS_make_20 : decode (kB K_MS_make) 20 = .ok (.iconst 5, 1) := by decide +kernel
theorem d_MS_make_21 : decode (kB K_MS_make) 21 = .ok (.iload_n 1, 1) := by decide +kernel
theorem d_MS_make_22 : decode (kB K_MS_make) 22 = .ok (.imul, 1) := by decide +kernel
theorem d_MS_make_23 : decode (kB K_MS_make) 23 = .ok (.iload_n 1, 1) := by decide +kernel
theorem d_MS_make_24 : decode (kB K_MS_make) 24 = .ok (.iadd, 1) := by decide +kernel
theorem d_MS_make_25 : decode (kB K_MS_make) 25 = .ok (.dup2, 1) := by decide +kernel
theorem d_MS_make_26 : decode (kB K_MS_make) 26 = .ok (.iaload, 1) := by decide +kernel
theorem d_MS_make_27 : decode (kB K_MS_make) 27 = .ok (.iconst 1, 1) := by decide +kernel
theorem d_MS_make_28 : decode (kB K_MS_make) 28 = .ok (.iadd, 1) := by decide +kernel
theorem d_MS_make_29 : decode (kB K_MS_make) 29 = .ok (.iastore, 1) := by decide +kernel
theorem d_MS_make_30 : decode (kB K_MS_make) 30 = .ok (.aload_n 0, 1) := by decide +kernel
theorem d_MS_make_31 : decode (kB K_MS_make) 31 = .ok (.getfield 15, 3) := by decide +kernel
theorem d_MS_make_34 : decode (kB K_MS_make) 34 = .ok (.iload 6, 2) := by decide +kernel
theorem d_MS_make_36 : decode (kB K_MS_make) 36 = .ok (.iload_n 1, 1) := by decide +kernel
theorem d_MS_make_37 : decode (kB K_MS_make) 37 = .ok (.iastore, 1) := by decide +kernel
theorem d_MS_make_38 : decode (kB K_MS_make) 38 = .ok (.aload_n 0, 1) := by decide +kernel
theorem d_MS_make_39 : decode (kB K_MS_make) 39 = .ok (.getfield 19, 3) := by decide +kernel
theorem d_MS_make_42 : decode (kB K_MS_make) 42 = .ok (.iload 6, 2) := by decide +kernel
theorem d_MS_make_44 : decode (kB K_MS_make) 44 = .ok (.iload_n 2, 1) := by decide +kernel
theorem d_MS_make_45 : decode (kB K_MS_make) 45 = .ok (.iastore, 1) := by decide +kernel
theorem d_MS_make_46 : decode (kB K_MS_make) 46 = .ok (.aload_n 0, 1) := by decide +kernel
theorem d_MS_make_47 : decode (kB K_MS_make) 47 = .ok (.getfield 22, 3) := by decide +kernel
theorem d_MS_make_50 : decode (kB K_MS_make) 50 = .ok (.iload 6, 2) := by decide +kernel
theorem d_MS_make_52 : decode (kB K_MS_make) 52 = .ok (.iload_n 3, 1) := by decide +kernel
theorem d_MS_make_53 : decode (kB K_MS_make) 53 = .ok (.iastore, 1) := by decide +kernel
theorem d_MS_make_54 : decode (kB K_MS_make) 54 = .ok (.aload_n 0, 1) := by decide +kernel
theorem d_MS_make_55 : decode (kB K_MS_make) 55 = .ok (.getfield 25, 3) := by decide +kernel
theorem d_MS_make_58 : decode (kB K_MS_make) 58 = .ok (.iload 6, 2) := by decide +kernel
theorem d_MS_make_60 : decode (kB K_MS_make) 60 = .ok (.iload 4, 2) := by decide +kernel
theorem d_MS_make_62 : decode (kB K_MS_make) 62 = .ok (.iastore, 1) := by decide +kernel
theorem d_MS_make_63 : decode (kB K_MS_make) 63 = .ok (.aload_n 0, 1) := by decide +kernel
theorem d_MS_make_64 : decode (kB K_MS_make) 64 = .ok (.getfield 28, 3) := by decide +kernel
theorem d_MS_make_67 : decode (kB K_MS_make) 67 = .ok (.iload 6, 2) := by decide +kernel
theorem d_MS_make_69 : decode (kB K_MS_make) 69 = .ok (.aload_n 0, 1) := by decide +kernel
theorem d_MS_make_70 : decode (kB K_MS_make) 70 = .ok (.getfield 74, 3) := by decide +kernel
theorem d_MS_make_73 : decode (kB K_MS_make) 73 = .ok (.iastore, 1) := by decide +kernel
theorem d_MS_make_74 : decode (kB K_MS_make) 74 = .ok (.aload_n 0, 1) := by decide +kernel
theorem d_MS_make_75 : decode (kB K_MS_make) 75 = .ok (.getfield 31, 3) := by decide +kernel
theorem d_MS_make_78 : decode (kB K_MS_make) 78 = .ok (.iload 6, 2) := by decide +kernel
theorem d_MS_make_80 : decode (kB K_MS_make) 80 = .ok (.iload 5, 2) := by decide +kernel
theorem d_MS_make_82 : decode (kB K_MS_make) 82 = .ok (.iastore, 1) := by decide +kernel
theorem d_MS_make_83 : decode (kB K_MS_make) 83 = .ok (.aload_n 0, 1) := by decide +kernel
theorem d_MS_make_84 : decode (kB K_MS_make) 84 = .ok (.getfield 37, 3) := by decide +kernel
theorem d_MS_make_87 : decode (kB K_MS_make) 87 = .ok (.iconst 5, 1) := by decide +kernel
theorem d_MS_make_88 : decode (kB K_MS_make) 88 = .ok (.iload_n 1, 1) := by decide +kernel
theorem d_MS_make_89 : decode (kB K_MS_make) 89 = .ok (.imul, 1) := by decide +kernel
theorem d_MS_make_90 : decode (kB K_MS_make) 90 = .ok (.aload_n 0, 1) := by decide +kernel
theorem d_MS_make_91 : decode (kB K_MS_make) 91 = .ok (.getfield 34, 3) := by decide +kernel
theorem d_MS_make_94 : decode (kB K_MS_make) 94 = .ok (.iconst 5, 1) := by decide +kernel
theorem d_MS_make_95 : decode (kB K_MS_make) 95 = .ok (.iload 6, 2) := by decide +kernel
theorem d_MS_make_97 : decode (kB K_MS_make) 97 = .ok (.imul, 1) := by decide +kernel
theorem d_MS_make_98 : decode (kB K_MS_make) 98 = .ok (.iconst 5, 1) := by decide +kernel
theorem d_MS_make_99 : decode (kB K_MS_make) 99 = .ok (.invokestatic 68, 3) := by decide +kernel
theorem d_MS_make_102 : decode (kB K_MS_make) 102 = .ok (.iconst 0, 1) := by decide +kernel
theorem d_MS_make_103 : decode (kB K_MS_make) 103 = .ok (.istore 7, 2) := by decide +kernel
theorem d_MS_make_105 : decode (kB K_MS_make) 105 = .ok (.iload 7, 2) := by decide +kernel
theorem d_MS_make_107 : decode (kB K_MS_make) 107 = .ok (.iconst 5, 1) := by decide +kernel
theorem d_MS_make_108 : decode (kB K_MS_make) 108 = .ok (.if_icmp .ge 34, 3) := by decide +kernel
theorem d_MS_make_111 : decode (kB K_MS_make) 111 = .ok (.aload_n 0, 1) := by decide +kernel
theorem d_MS_make_112 : decode (kB K_MS_make) 112 = .ok (.getfield 40, 3) := by decide +kernel
theorem d_MS_make_115 : decode (kB K_MS_make) 115 = .ok (.aload_n 0, 1) := by decide +kernel
theorem d_MS_make_116 : decode (kB K_MS_make) 116 = .ok (.iload_n 1, 1) := by decide +kernel
theorem d_MS_make_117 : decode (kB K_MS_make) 117 = .ok (.iload_n 2, 1) := by decide +kernel
theorem d_MS_make_118 : decode (kB K_MS_make) 118 = .ok (.iload 7, 2) := by decide +kernel
theorem d_MS_make_120 : decode (kB K_MS_make) 120 = .ok (.invokevirtual 117, 3) := by decide +kernel
theorem d_MS_make_123 : decode (kB K_MS_make) 123 = .ok (.iload 7, 2) := by decide +kernel
theorem d_MS_make_125 : decode (kB K_MS_make) 125 = .ok (.iload_n 1, 1) := by decide +kernel
theorem d_MS_make_126 : decode (kB K_MS_make) 126 = .ok (.if_icmp .ne 8, 3) := by decide +kernel
theorem d_MS_make_129 : decode (kB K_MS_make) 129 = .ok (.iload 6, 2) := by decide +kernel
theorem d_MS_make_131 : decode (kB K_MS_make) 131 = .ok (.goto 4, 3) := by decide +kernel
theorem d_MS_make_134 : decode (kB K_MS_make) 134 = .ok (.iconst (-1), 1) := by decide +kernel
theorem d_MS_make_135 : decode (kB K_MS_make) 135 = .ok (.iastore, 1) := by decide +kernel
theorem d_MS_make_136 : decode (kB K_MS_make) 136 = .ok (.iinc 7 1, 3) := by decide +kernel
theorem d_MS_make_139 : decode (kB K_MS_make) 139 = .ok (.goto (-34), 3) := by decide +kernel
theorem d_MS_make_142 : decode (kB K_MS_make) 142 = .ok (.aload_n 0, 1) := by decide +kernel
theorem d_MS_make_143 : decode (kB K_MS_make) 143 = .ok (.dup, 1) := by decide +kernel
theorem d_MS_make_144 : decode (kB K_MS_make) 144 = .ok (.getfield 84, 3) := by decide +kernel
theorem d_MS_make_147 : decode (kB K_MS_make) 147 = .ok (.iload 5, 2) := by decide +kernel
theorem d_MS_make_149 : decode (kB K_MS_make) 149 = .ok (.iconst 2, 1) := by decide +kernel
theorem d_MS_make_150 : decode (kB K_MS_make) 150 = .ok (.if_icmp .ne 7, 3) := by decide +kernel
theorem d_MS_make_153 : decode (kB K_MS_make) 153 = .ok (.iconst 1, 1) := by decide +kernel
theorem d_MS_make_154 : decode (kB K_MS_make) 154 = .ok (.goto 4, 3) := by decide +kernel
theorem d_MS_make_157 : decode (kB K_MS_make) 157 = .ok (.iconst 0, 1) := by decide +kernel
theorem d_MS_make_158 : decode (kB K_MS_make) 158 = .ok (.iadd, 1) := by decide +kernel
theorem d_MS_make_159 : decode (kB K_MS_make) 159 = .ok (.putfield 84, 3) := by decide +kernel
theorem d_MS_make_162 : decode (kB K_MS_make) 162 = .ok (.iload 6, 2) := by decide +kernel
theorem d_MS_make_164 : decode (kB K_MS_make) 164 = .ok (.ireturn, 1) := by decide +kernel
def K_MS_valueOf : KM := (⟨"ParishBoardsModel$State", "valueOf", "(III)I"⟩, prog_17_method_16_code, 9, (some (.int)), "ParishBoardsModel$State", [])
theorem d_MS_valueOf_0 : decode (kB K_MS_valueOf) 0 = .ok (.iconst 0, 1) := by decide +kernel
theorem d_MS_valueOf_1 : decode (kB K_MS_valueOf) 1 = .ok (.istore 4, 2) := by decide +kernel
theorem d_MS_valueOf_3 : decode (kB K_MS_valueOf) 3 = .ok (.sipush 9999, 3) := by decide +kernel
theorem d_MS_valueOf_6 : decode (kB K_MS_valueOf) 6 = .ok (.istore 5, 2) := by decide +kernel
theorem d_MS_valueOf_8 : decode (kB K_MS_valueOf) 8 = .ok (.iconst 0, 1) := by decide +kernel
theorem d_MS_valueOf_9 : decode (kB K_MS_valueOf) 9 = .ok (.istore 6, 2) := by decide +kernel
theorem d_MS_valueOf_11 : decode (kB K_MS_valueOf) 11 = .ok (.iconst 0, 1) := by decide +kernel
theorem d_MS_valueOf_12 : decode (kB K_MS_valueOf) 12 = .ok (.istore 7, 2) := by decide +kernel
theorem d_MS_valueOf_14 : decode (kB K_MS_valueOf) 14 = .ok (.iload 7, 2) := by decide +kernel
theorem d_MS_valueOf_16 : decode (kB K_MS_valueOf) 16 = .ok (.aload_n 0, 1) := by decide +kernel
theorem d_MS_valueOf_17 : decode (kB K_MS_valueOf) 17 = .ok (.iload_n 1, 1) := by decide +kernel
theorem d_MS_valueOf_18 : decode (kB K_MS_valueOf) 18 = .ok (.iload_n 2, 1) := by decide +kernel
theorem d_MS_valueOf_19 : decode (kB K_MS_valueOf) 19 = .ok (.invokevirtual 121, 3) := by decide +kernel
theorem d_MS_valueOf_22 : decode (kB K_MS_valueOf) 22 = .ok (.if_icmp .ge 55, 3) := by decide +kernel
theorem d_MS_valueOf_25 : decode (kB K_MS_valueOf) 25 = .ok (.aload_n 0, 1) := by decide +kernel
theorem d_MS_valueOf_26 : decode (kB K_MS_valueOf) 26 = .ok (.getfield 22, 3) := by decide +kernel
theorem d_MS_valueOf_29 : decode (kB K_MS_valueOf) 29 = .ok (.aload_n 0, 1) := by decide +kernel
theorem d_MS_valueOf_30 : decode (kB K_MS_valueOf) 30 = .ok (.iload_n 1, 1) := by decide +kernel
theorem d_MS_valueOf_31 : decode (kB K_MS_valueOf) 31 = .ok (.iload_n 2, 1) := by decide +kernel
theorem d_MS_valueOf_32 : decode (kB K_MS_valueOf) 32 = .ok (.iload 7, 2) := by decide +kernel
theorem d_MS_valueOf_34 : decode (kB K_MS_valueOf) 34 = .ok (.invokevirtual 124, 3) := by decide +kernel
theorem d_MS_valueOf_37 : decode (kB K_MS_valueOf) 37 = .ok (.iaload, 1) := by decide +kernel
theorem d_MS_valueOf_38 : decode (kB K_MS_valueOf) 38 = .ok (.istore 8, 2) := by decide +kernel
theorem d_MS_valueOf_40 : decode (kB K_MS_valueOf) 40 = .ok (.sipush 9999, 3) := by decide +kernel
theorem d_MS_valueOf_43 : decode (kB K_MS_valueOf) 43 = .ok (.iload 4, 2) := by decide +kernel
theorem d_MS_valueOf_45 : decode (kB K_MS_valueOf) 45 = .ok (.iload 8, 2) := by decide +kernel
theorem d_MS_valueOf_47 : decode (kB K_MS_valueOf) 47 = .ok (.iadd, 1) := by decide +kernel
theorem d_MS_valueOf_48 : decode (kB K_MS_valueOf) 48 = .ok (.invokestatic 131, 3) := by decide +kernel
theorem d_MS_valueOf_51 : decode (kB K_MS_valueOf) 51 = .ok (.istore 4, 2) := by decide +kernel
theorem d_MS_valueOf_53 : decode (kB K_MS_valueOf) 53 = .ok (.iload 5, 2) := by decide +kernel
theorem d_MS_valueOf_55 : decode (kB K_MS_valueOf) 55 = .ok (.iload 8, 2) := by decide +kernel
theorem d_MS_valueOf_57 : decode (kB K_MS_valueOf) 57 = .ok (.invokestatic 131, 3) := by decide +kernel
theorem d_MS_valueOf_60 : decode (kB K_MS_valueOf) 60 = .ok (.istore 5, 2) := by decide +kernel
theorem d_MS_valueOf_62 : decode (kB K_MS_valueOf) 62 = .ok (.iload 6, 2) := by decide +kernel
theorem d_MS_valueOf_64 : decode (kB K_MS_valueOf) 64 = .ok (.iload 8, 2) := by decide +kernel
theorem d_MS_valueOf_66 : decode (kB K_MS_valueOf) 66 = .ok (.invokestatic 136, 3) := by decide +kernel
theorem d_MS_valueOf_69 : decode (kB K_MS_valueOf) 69 = .ok (.istore 6, 2) := by decide +kernel
theorem d_MS_valueOf_71 : decode (kB K_MS_valueOf) 71 = .ok (.iinc 7 1, 3) := by decide +kernel
theorem d_MS_valueOf_74 : decode (kB K_MS_valueOf) 74 = .ok (.goto (-60), 3) := by decide +kernel
theorem d_MS_valueOf_77 : decode (kB K_MS_valueOf) 77 = .ok (.iload_n 3, 1) := by decide +kernel
theorem d_MS_valueOf_78 : decode (kB K_MS_valueOf) 78 = .ok (.ifCond .ne 8, 3) := by decide +kernel
theorem d_MS_valueOf_81 : decode (kB K_MS_valueOf) 81 = .ok (.iload 5, 2) := by decide +kernel
theorem d_MS_valueOf_83 : decode (kB K_MS_valueOf) 83 = .ok (.goto 15, 3) := by decide +kernel
theorem d_MS_valueOf_86 : decode (kB K_MS_valueOf) 86 = .ok (.iload_n 3, 1) := by decide +kernel
theorem d_MS_valueOf_87 : decode (kB K_MS_valueOf) 87 = .ok (.iconst 1, 1) := by decide +kernel
theorem d_MS_valueOf_88 : decode (kB K_MS_valueOf) 88 = .ok (.if_icmp .ne 8, 3) := by decide +kernel
theorem d_MS_valueOf_91 : decode (kB K_MS_valueOf) 91 = .ok (.iload 6, 2) := by decide +kernel
theorem d_MS_valueOf_93 : decode (kB K_MS_valueOf) 93 = .ok (.goto 5, 3) := by decide +kernel
theorem d_MS_valueOf_96 : decode (kB K_MS_valueOf) 96 = .ok (.iload 4, 2) := by decide +kernel
theorem d_MS_valueOf_98 : decode (kB K_MS_valueOf) 98 = .ok (.ireturn, 1) := by decide +kernel
def K_MS_merge : KM := (⟨"ParishBoardsModel$State", "merge", "(III)I"⟩, prog_17_method_17_code, 4, (some (.int)), "ParishBoardsModel$State", [])
theorem d_MS_merge_0 : decode (kB K_MS_merge) 0 = .ok (.aload_n 0, 1) := by decide +kernel
theorem d_MS_merge_1 : decode (kB K_MS_merge) 1 = .ok (.iload_n 1, 1) := by decide +kernel
theorem d_MS_merge_2 : decode (kB K_MS_merge) 2 = .ok (.iload_n 2, 1) := by decide +kernel
theorem d_MS_merge_3 : decode (kB K_MS_merge) 3 = .ok (.aload_n 0, 1) := by decide +kernel
theorem d_MS_merge_4 : decode (kB K_MS_merge) 4 = .ok (.iload_n 1, 1) := by decide +kernel
theorem d_MS_merge_5 : decode (kB K_MS_merge) 5 = .ok (.iload_n 2, 1) := by decide +kernel
theorem d_MS_merge_6 : decode (kB K_MS_merge) 6 = .ok (.iload_n 3, 1) := by decide +kernel
theorem d_MS_merge_7 : decode (kB K_MS_merge) 7 = .ok (.invokevirtual 139, 3) := by decide +kernel
theorem d_MS_merge_10 : decode (kB K_MS_merge) 10 = .ok (.aload_n 0, 1) := by decide +kernel
theorem d_MS_merge_11 : decode (kB K_MS_merge) 11 = .ok (.iload_n 1, 1) := by decide +kernel
theorem d_MS_merge_12 : decode (kB K_MS_merge) 12 = .ok (.iload_n 2, 1) := by decide +kernel
theorem d_MS_merge_13 : decode (kB K_MS_merge) 13 = .ok (.invokevirtual 142, 3) := by decide +kernel
theorem d_MS_merge_16 : decode (kB K_MS_merge) 16 = .ok (.iconst 2, 1) := by decide +kernel
theorem d_MS_merge_17 : decode (kB K_MS_merge) 17 = .ok (.invokevirtual 145, 3) := by decide +kernel
theorem d_MS_merge_20 : decode (kB K_MS_merge) 20 = .ok (.ireturn, 1) := by decide +kernel
def K_MS_note : KM := (⟨"ParishBoardsModel$State", "note", "(III)I"⟩, prog_17_method_18_code, 4, (some (.int)), "ParishBoardsModel$State", [])
theorem d_MS_note_0 : decode (kB K_MS_note) 0 = .ok (.aload_n 0, 1) := by decide +kernel
theorem d_MS_note_1 : decode (kB K_MS_note) 1 = .ok (.iload_n 1, 1) := by decide +kernel
theorem d_MS_note_2 : decode (kB K_MS_note) 2 = .ok (.iload_n 2, 1) := by decide +kernel
theorem d_MS_note_3 : decode (kB K_MS_note) 3 = .ok (.aload_n 0, 1) := by decide +kernel
theorem d_MS_note_4 : decode (kB K_MS_note) 4 = .ok (.iload_n 1, 1) := by decide +kernel
theorem d_MS_note_5 : decode (kB K_MS_note) 5 = .ok (.iload_n 2, 1) := by decide +kernel
theorem d_MS_note_6 : decode (kB K_MS_note) 6 = .ok (.iconst 0, 1) := by decide +kernel
theorem d_MS_note_7 : decode (kB K_MS_note) 7 = .ok (.invokevirtual 139, 3) := by decide +kernel
theorem d_MS_note_10 : decode (kB K_MS_note) 10 = .ok (.aload_n 0, 1) := by decide +kernel
theorem d_MS_note_11 : decode (kB K_MS_note) 11 = .ok (.iload_n 1, 1) := by decide +kernel
theorem d_MS_note_12 : decode (kB K_MS_note) 12 = .ok (.iload_n 2, 1) := by decide +kernel
theorem d_MS_note_13 : decode (kB K_MS_note) 13 = .ok (.invokevirtual 142, 3) := by decide +kernel
theorem d_MS_note_16 : decode (kB K_MS_note) 16 = .ok (.iconst 1, 1) := by decide +kernel
theorem d_MS_note_17 : decode (kB K_MS_note) 17 = .ok (.iload_n 3, 1) := by decide +kernel
theorem d_MS_note_18 : decode (kB K_MS_note) 18 = .ok (.ishl, 1) := by decide +kernel
theorem d_MS_note_19 : decode (kB K_MS_note) 19 = .ok (.ior, 1) := by decide +kernel
theorem d_MS_note_20 : decode (kB K_MS_note) 20 = .ok (.iconst 1, 1) := by decide +kernel
theorem d_MS_note_21 : decode (kB K_MS_note) 21 = .ok (.invokevirtual 145, 3) := by decide +kernel
theorem d_MS_note_24 : decode (kB K_MS_note) 24 = .ok (.ireturn, 1) := by decide +kernel
def K_MS_write : KM := (⟨"ParishBoardsModel$State", "write", "(III)I"⟩, prog_17_method_19_code, 4, (some (.int)), "ParishBoardsModel$State", [])
theorem d_MS_write_0 : decode (kB K_MS_write) 0 = .ok (.aload_n 0, 1) := by decide +kernel
theorem d_MS_write_1 : decode (kB K_MS_write) 1 = .ok (.iload_n 1, 1) := by decide +kernel
theorem d_MS_write_2 : decode (kB K_MS_write) 2 = .ok (.iload_n 2, 1) := by decide +kernel
theorem d_MS_write_3 : decode (kB K_MS_write) 3 = .ok (.iload_n 3, 1) := by decide +kernel
theorem d_MS_write_4 : decode (kB K_MS_write) 4 = .ok (.aload_n 0, 1) := by decide +kernel
theorem d_MS_write_5 : decode (kB K_MS_write) 5 = .ok (.iload_n 1, 1) := by decide +kernel
theorem d_MS_write_6 : decode (kB K_MS_write) 6 = .ok (.iload_n 2, 1) := by decide +kernel
theorem d_MS_write_7 : decode (kB K_MS_write) 7 = .ok (.invokevirtual 142, 3) := by decide +kernel
theorem d_MS_write_10 : decode (kB K_MS_write) 10 = .ok (.iconst 0, 1) := by decide +kernel
theorem d_MS_write_11 : decode (kB K_MS_write) 11 = .ok (.invokevirtual 145, 3) := by decide +kernel
theorem d_MS_write_14 : decode (kB K_MS_write) 14 = .ok (.ireturn, 1) := by decide +kernel
def K_MS_send : KM := (⟨"ParishBoardsModel$State", "send", "(I)I"⟩, prog_17_method_20_code, 5, (some (.int)), "ParishBoardsModel$State", [])
theorem d_MS_send_0 : decode (kB K_MS_send) 0 = .ok (.lconst 0, 1) := by decide +kernel
theorem d_MS_send_1 : decode (kB K_MS_send) 1 = .ok (.lstore_n 2, 1) := by decide +kernel
theorem d_MS_send_2 : decode (kB K_MS_send) 2 = .ok (.iconst 0, 1) := by decide +kernel
theorem d_MS_send_3 : decode (kB K_MS_send) 3 = .ok (.istore 4, 2) := by decide +kernel
theorem d_MS_send_5 : decode (kB K_MS_send) 5 = .ok (.iload 4, 2) := by decide +kernel
theorem d_MS_send_7 : decode (kB K_MS_send) 7 = .ok (.aload_n 0, 1) := by decide +kernel
theorem d_MS_send_8 : decode (kB K_MS_send) 8 = .ok (.getfield 78, 3) := by decide +kernel
theorem d_MS_send_11 : decode (kB K_MS_send) 11 = .ok (.if_icmp .ge 57, 3) := by decide +kernel
theorem d_MS_send_14 : decode (kB K_MS_send) 14 = .ok (.lload_n 2, 1) := by decide +kernel
theorem d_MS_send_15 : decode (kB K_MS_send) 15 = .ok (.aload_n 0, 1) := by decide +kernel
theorem d_MS_send_16 : decode (kB K_MS_send) 16 = .ok (.aload_n 0, 1) := by decide +kernel
theorem d_MS_send_17 : decode (kB K_MS_send) 17 = .ok (.getfield 3, 3) := by decide +kernel
theorem d_MS_send_20 : decode (kB K_MS_send) 20 = .ok (.getfield 100, 3) := by decide +kernel
theorem d_MS_send_23 : decode (kB K_MS_send) 23 = .ok (.getfield 149, 3) := by decide +kernel
theorem d_MS_send_26 : decode (kB K_MS_send) 26 = .ok (.iload_n 1, 1) := by decide +kernel
theorem d_MS_send_27 : decode (kB K_MS_send) 27 = .ok (.iaload, 1) := by decide +kernel
theorem d_MS_send_28 : decode (kB K_MS_send) 28 = .ok (.iload 4, 2) := by decide +kernel
theorem d_MS_send_30 : decode (kB K_MS_send) 30 = .ok (.invokevirtual 152, 3) := by decide +kernel
theorem d_MS_send_33 : decode (kB K_MS_send) 33 = .ok (.ifCond .eq 26, 3) := by decide +kernel
theorem d_MS_send_36 : decode (kB K_MS_send) 36 = .ok (.aload_n 0, 1) := by decide +kernel
theorem d_MS_send_37 : decode (kB K_MS_send) 37 = .ok (.getfield 53, 3) := by decide +kernel
theorem d_MS_send_40 : decode (kB K_MS_send) 40 = .ok (.iload_n 1, 1) := by decide +kernel
theorem d_MS_send_41 : decode (kB K_MS_send) 41 = .ok (.laload, 1) := by decide +kernel
theorem d_MS_send_42 : decode (kB K_MS_send) 42 = .ok (.iload 4, 2) := by decide +kernel
theorem d_MS_send_44 : decode (kB K_MS_send) 44 = .ok (.lshr, 1) := by decide +kernel
theorem d_MS_send_45 : decode (kB K_MS_send) 45 = .ok (.lconst 1, 1) := by decide +kernel
theorem d_MS_send_46 : decode (kB K_MS_send) 46 = .ok (.land, 1) := by decide +kernel
theorem d_MS_send_47 : decode (kB K_MS_send) 47 = .ok (.lconst 0, 1) := by decide +kernel
theorem d_MS_send_48 : decode (kB K_MS_send) 48 = .ok (.lcmp, 1) := by decide +kernel
theorem d_MS_send_49 : decode (kB K_MS_send) 49 = .ok (.ifCond .ne 10, 3) := by decide +kernel
theorem d_MS_send_52 : decode (kB K_MS_send) 52 = .ok (.lconst 1, 1) := by decide +kernel
theorem d_MS_send_53 : decode (kB K_MS_send) 53 = .ok (.iload 4, 2) := by decide +kernel
theorem d_MS_send_55 : decode (kB K_MS_send) 55 = .ok (.lshl, 1) := by decide +kernel
theorem d_MS_send_56 : decode (kB K_MS_send) 56 = .ok (.goto 4, 3) := by decide +kernel
theorem d_MS_send_59 : decode (kB K_MS_send) 59 = .ok (.lconst 0, 1) := by decide +kernel
theorem d_MS_send_60 : decode (kB K_MS_send) 60 = .ok (.lor, 1) := by decide +kernel
theorem d_MS_send_61 : decode (kB K_MS_send) 61 = .ok (.lstore_n 2, 1) := by decide +kernel
theorem d_MS_send_62 : decode (kB K_MS_send) 62 = .ok (.iinc 4 1, 3) := by decide +kernel
theorem d_MS_send_65 : decode (kB K_MS_send) 65 = .ok (.goto (-60), 3) := by decide +kernel
theorem d_MS_send_68 : decode (kB K_MS_send) 68 = .ok (.lload_n 2, 1) := by decide +kernel
theorem d_MS_send_69 : decode (kB K_MS_send) 69 = .ok (.lconst 0, 1) := by decide +kernel
theorem d_MS_send_70 : decode (kB K_MS_send) 70 = .ok (.lcmp, 1) := by decide +kernel
theorem d_MS_send_71 : decode (kB K_MS_send) 71 = .ok (.ifCond .ne 5, 3) := by decide +kernel
theorem d_MS_send_74 : decode (kB K_MS_send) 74 = .ok (.iconst 0, 1) := by decide +kernel
theorem d_MS_send_75 : decode (kB K_MS_send) 75 = .ok (.ireturn, 1) := by decide +kernel
theorem d_MS_send_76 : decode (kB K_MS_send) 76 = .ok (.aload_n 0, 1) := by decide +kernel
theorem d_MS_send_77 : decode (kB K_MS_send) 77 = .ok (.getfield 53, 3) := by decide +kernel
theorem d_MS_send_80 : decode (kB K_MS_send) 80 = .ok (.iload_n 1, 1) := by decide +kernel
theorem d_MS_send_81 : decode (kB K_MS_send) 81 = .ok (.dup2, 1) := by decide +kernel
theorem d_MS_send_82 : decode (kB K_MS_send) 82 = .ok (.laload, 1) := by decide +kernel
theorem d_MS_send_83 : decode (kB K_MS_send) 83 = .ok (.lload_n 2, 1) := by decide +kernel
theorem d_MS_send_84 : decode (kB K_MS_send) 84 = .ok (.lor, 1) := by decide +kernel
theorem d_MS_send_85 : decode (kB K_MS_send) 85 = .ok (.lastore, 1) := by decide +kernel
theorem d_MS_send_86 : decode (kB K_MS_send) 86 = .ok (.aload_n 0, 1) := by decide +kernel
theorem d_MS_send_87 : decode (kB K_MS_send) 87 = .ok (.getfield 50, 3) := by decide +kernel
theorem d_MS_send_90 : decode (kB K_MS_send) 90 = .ok (.iload_n 1, 1) := by decide +kernel
theorem d_MS_send_91 : decode (kB K_MS_send) 91 = .ok (.dup2, 1) := by decide +kernel
theorem d_MS_send_92 : decode (kB K_MS_send) 92 = .ok (.iaload, 1) := by decide +kernel
theorem d_MS_send_93 : decode (kB K_MS_send) 93 = .ok (.iconst 1, 1) := by decide +kernel
theorem d_MS_send_94 : decode (kB K_MS_send) 94 = .ok (.iadd, 1) := by decide +kernel
theorem d_MS_send_95 : decode (kB K_MS_send) 95 = .ok (.iastore, 1) := by decide +kernel
theorem d_MS_send_96 : decode (kB K_MS_send) 96 = .ok (.aload_n 0, 1) := by decide +kernel
theorem d_MS_send_97 : decode (kB K_MS_send) 97 = .ok (.getfield 56, 3) := by decide +kernel
theorem d_MS_send_100 : decode (kB K_MS_send) 100 = .ok (.aload_n 0, 1) := by decide +kernel
theorem d_MS_send_101 : decode (kB K_MS_send) 101 = .ok (.getfield 90, 3) := by decide +kernel
theorem d_MS_send_104 : decode (kB K_MS_send) 104 = .ok (.iload_n 1, 1) := by decide +kernel
theorem d_MS_send_105 : decode (kB K_MS_send) 105 = .ok (.iastore, 1) := by decide +kernel
theorem d_MS_send_106 : decode (kB K_MS_send) 106 = .ok (.aload_n 0, 1) := by decide +kernel
theorem d_MS_send_107 : decode (kB K_MS_send) 107 = .ok (.getfield 59, 3) := by decide +kernel
theorem d_MS_send_110 : decode (kB K_MS_send) 110 = .ok (.aload_n 0, 1) := by decide +kernel
theorem d_MS_send_111 : decode (kB K_MS_send) 111 = .ok (.getfield 90, 3) := by decide +kernel
theorem d_MS_send_114 : decode (kB K_MS_send) 114 = .ok (.aload_n 0, 1) := by decide +kernel
theorem d_MS_send_115 : decode (kB K_MS_send) 115 = .ok (.getfield 74, 3) := by decide +kernel
theorem d_MS_send_118 : decode (kB K_MS_send) 118 = .ok (.aload_n 0, 1) := by decide +kernel
theorem d_MS_send_119 : decode (kB K_MS_send) 119 = .ok (.getfield 47, 3) := by decide +kernel
theorem d_MS_send_122 : decode (kB K_MS_send) 122 = .ok (.iload_n 1, 1) := by decide +kernel
theorem d_MS_send_123 : decode (kB K_MS_send) 123 = .ok (.iaload, 1) := by decide +kernel
theorem d_MS_send_124 : decode (kB K_MS_send) 124 = .ok (.iadd, 1) := by decide +kernel
theorem d_MS_send_125 : decode (kB K_MS_send) 125 = .ok (.iastore, 1) := by decide +kernel
theorem d_MS_send_126 : decode (kB K_MS_send) 126 = .ok (.aload_n 0, 1) := by decide +kernel
theorem d_MS_send_127 : decode (kB K_MS_send) 127 = .ok (.getfield 62, 3) := by decide +kernel
theorem d_MS_send_130 : decode (kB K_MS_send) 130 = .ok (.aload_n 0, 1) := by decide +kernel
theorem d_MS_send_131 : decode (kB K_MS_send) 131 = .ok (.getfield 90, 3) := by decide +kernel
theorem d_MS_send_134 : decode (kB K_MS_send) 134 = .ok (.lload_n 2, 1) := by decide +kernel
theorem d_MS_send_135 : decode (kB K_MS_send) 135 = .ok (.lastore, 1) := by decide +kernel
theorem d_MS_send_136 : decode (kB K_MS_send) 136 = .ok (.aload_n 0, 1) := by decide +kernel
theorem d_MS_send_137 : decode (kB K_MS_send) 137 = .ok (.dup, 1) := by decide +kernel
theorem d_MS_send_138 : decode (kB K_MS_send) 138 = .ok (.getfield 90, 3) := by decide +kernel
theorem d_MS_send_141 : decode (kB K_MS_send) 141 = .ok (.iconst 1, 1) := by decide +kernel
theorem d_MS_send_142 : decode (kB K_MS_send) 142 = .ok (.iadd, 1) := by decide +kernel
theorem d_MS_send_143 : decode (kB K_MS_send) 143 = .ok (.putfield 90, 3) := by decide +kernel
theorem d_MS_send_146 : decode (kB K_MS_send) 146 = .ok (.lload_n 2, 1) := by decide +kernel
theorem d_MS_send_147 : decode (kB K_MS_send) 147 = .ok (.invokestatic 127, 3) := by decide +kernel
theorem d_MS_send_150 : decode (kB K_MS_send) 150 = .ok (.ireturn, 1) := by decide +kernel
def K_MS_come : KM := (⟨"ParishBoardsModel$State", "come", "(IJ)V"⟩, prog_17_method_21_code, 5, none, "ParishBoardsModel$State", [])
theorem d_MS_come_0 : decode (kB K_MS_come) 0 = .ok (.iconst 0, 1) := by decide +kernel
theorem d_MS_come_1 : decode (kB K_MS_come) 1 = .ok (.istore 4, 2) := by decide +kernel
theorem d_MS_come_3 : decode (kB K_MS_come) 3 = .ok (.iload 4, 2) := by decide +kernel
theorem d_MS_come_5 : decode (kB K_MS_come) 5 = .ok (.aload_n 0, 1) := by decide +kernel
theorem d_MS_come_6 : decode (kB K_MS_come) 6 = .ok (.getfield 78, 3) := by decide +kernel
theorem d_MS_come_9 : decode (kB K_MS_come) 9 = .ok (.if_icmp .ge 43, 3) := by decide +kernel
theorem d_MS_come_12 : decode (kB K_MS_come) 12 = .ok (.lload_n 2, 1) := by decide +kernel
theorem d_MS_come_13 : decode (kB K_MS_come) 13 = .ok (.iload 4, 2) := by decide +kernel
theorem d_MS_come_15 : decode (kB K_MS_come) 15 = .ok (.lshr, 1) := by decide +kernel
theorem d_MS_come_16 : decode (kB K_MS_come) 16 = .ok (.lconst 1, 1) := by decide +kernel
theorem d_MS_come_17 : decode (kB K_MS_come) 17 = .ok (.land, 1) := by decide +kernel
theorem d_MS_come_18 : decode (kB K_MS_come) 18 = .ok (.lconst 1, 1) := by decide +kernel
theorem d_MS_come_19 : decode (kB K_MS_come) 19 = .ok (.lcmp, 1) := by decide +kernel
theorem d_MS_come_20 : decode (kB K_MS_come) 20 = .ok (.ifCond .ne 26, 3) := by decide +kernel
theorem d_MS_come_23 : decode (kB K_MS_come) 23 = .ok (.aload_n 0, 1) := by decide +kernel
theorem d_MS_come_24 : decode (kB K_MS_come) 24 = .ok (.iload_n 1, 1) := by decide +kernel
theorem d_MS_come_25 : decode (kB K_MS_come) 25 = .ok (.iload 4, 2) := by decide +kernel
theorem d_MS_come_27 : decode (kB K_MS_come) 27 = .ok (.invokevirtual 152, 3) := by decide +kernel
theorem d_MS_come_30 : decode (kB K_MS_come) 30 = .ok (.ifCond .ne 16, 3) := by decide +kernel
theorem d_MS_come_33 : decode (kB K_MS_come) 33 = .ok (.aload_n 0, 1) := by decide +kernel
theorem d_MS_come_34 : decode (kB K_MS_come) 34 = .ok (.getfield 43, 3) := by decide +kernel
theorem d_MS_come_37 : decode (kB K_MS_come) 37 = .ok (.iload_n 1, 1) := by decide +kernel
theorem d_MS_come_38 : decode (kB K_MS_come) 38 = .ok (.dup2, 1) := by decide +kernel
theorem d_MS_come_39 : decode (kB K_MS_come) 39 = .ok (.laload, 1) := by decide +kernel
theorem d_MS_come_40 : decode (kB K_MS_come) 40 = .ok (.lconst 1, 1) := by decide +kernel
theorem d_MS_come_41 : decode (kB K_MS_come) 41 = .ok (.iload 4, 2) := by decide +kernel
theorem d_MS_come_43 : decode (kB K_MS_come) 43 = .ok (.lshl, 1) := by decide +kernel
theorem d_MS_come_44 : decode (kB K_MS_come) 44 = .ok (.lor, 1) := by decide +kernel
theorem d_MS_come_45 : decode (kB K_MS_come) 45 = .ok (.lastore, 1) := by decide +kernel
theorem d_MS_come_46 : decode (kB K_MS_come) 46 = .ok (.iinc 4 1, 3) := by decide +kernel
theorem d_MS_come_49 : decode (kB K_MS_come) 49 = .ok (.goto (-46), 3) := by decide +kernel
theorem d_MS_come_52 : decode (kB K_MS_come) 52 = .ok (.return_, 1) := by decide +kernel
