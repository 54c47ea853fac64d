/-! methods and their instructions -/
def K_LW_until : KM := (⟨"ParishBoardsLaw", "until", "(LParishBoards;II[J)I"⟩, method_20_code, 5, (some (.int)), "ParishBoardsLaw", [])
theorem d_LW_until_0 : decode (kB K_LW_until) 0 = .ok (.aload_n 3, 1) := by decide +kernel
theorem d_LW_until_1 : decode (kB K_LW_until) 1 = .ok (.iconst 0, 1) := by decide +kernel
theorem d_LW_until_2 : decode (kB K_LW_until) 2 = .ok (.aload_n 0, 1) := by decide +kernel
theorem d_LW_until_3 : decode (kB K_LW_until) 3 = .ok (.iload_n 1, 1) := by decide +kernel
theorem d_LW_until_4 : decode (kB K_LW_until) 4 = .ok (.iload_n 2, 1) := by decide +kernel
theorem d_LW_until_5 : decode (kB K_LW_until) 5 = .ok (.invokevirtual 70, 3) := by decide +kernel
theorem d_LW_until_8 : decode (kB K_LW_until) 8 = .ok (.i2l, 1) := by decide +kernel
theorem d_LW_until_9 : decode (kB K_LW_until) 9 = .ok (.lastore, 1) := by decide +kernel
theorem d_LW_until_10 : decode (kB K_LW_until) 10 = .ok (.goto 7, 3) := by decide +kernel
theorem d_LW_until_13 : decode (kB K_LW_until) 13 = .ok (.astore 4, 2) := by decide +kernel
theorem d_LW_until_15 : decode (kB K_LW_until) 15 = .ok (.iconst 1, 1) := by decide +kernel
theorem d_LW_until_16 : decode (kB K_LW_until) 16 = .ok (.ireturn, 1) := by decide +kernel
theorem d_LW_until_17 : decode (kB K_LW_until) 17 = .ok (.iconst 0, 1) := by decide +kernel
theorem d_LW_until_18 : decode (kB K_LW_until) 18 = .ok (.ireturn, 1) := by decide +kernel
def K_LW_advise : KM := (⟨"ParishBoardsLaw", "advise", "(LParishBoards;I[J)I"⟩, method_21_code, 4, (some (.int)), "ParishBoardsLaw", [])
theorem d_LW_advise_0 : decode (kB K_LW_advise) 0 = .ok (.aload_n 2, 1) := by decide +kernel
theorem d_LW_advise_1 : decode (kB K_LW_advise) 1 = .ok (.iconst 0, 1) := by decide +kernel
theorem d_LW_advise_2 : decode (kB K_LW_advise) 2 = .ok (.aload_n 0, 1) := by decide +kernel
theorem d_LW_advise_3 : decode (kB K_LW_advise) 3 = .ok (.iload_n 1, 1) := by decide +kernel
theorem d_LW_advise_4 : decode (kB K_LW_advise) 4 = .ok (.invokevirtual 73, 3) := by decide +kernel
theorem d_LW_advise_7 : decode (kB K_LW_advise) 7 = .ok (.i2l, 1) := by decide +kernel
theorem d_LW_advise_8 : decode (kB K_LW_advise) 8 = .ok (.lastore, 1) := by decide +kernel
theorem d_LW_advise_9 : decode (kB K_LW_advise) 9 = .ok (.goto 6, 3) := by decide +kernel
theorem d_LW_advise_12 : decode (kB K_LW_advise) 12 = .ok (.astore_n 3, 1) := by decide +kernel
theorem d_LW_advise_13 : decode (kB K_LW_advise) 13 = .ok (.iconst 1, 1) := by decide +kernel
theorem d_LW_advise_14 : decode (kB K_LW_advise) 14 = .ok (.ireturn, 1) := by decide +kernel
theorem d_LW_advise_15 : decode (kB K_LW_advise) 15 = .ok (.iconst 0, 1) := by decide +kernel
theorem d_LW_advise_16 : decode (kB K_LW_advise) 16 = .ok (.ireturn, 1) := by decide +kernel
