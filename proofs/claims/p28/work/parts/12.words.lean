/-! words -/
theorem ok_PB : CEok E_PB := by
  refine ⟨fun w hw => ?_, tb_at 96 (by decide +kernel) (by decide +kernel), by decide +kernel, by decide +kernel, tb_at 75 (by decide +kernel) (by decide +kernel)⟩
  obtain ⟨k, hk, rfl⟩ := List.mem_map.mp hw
  have hk : k < 10 := List.mem_range.mp hk
  rcases (by omega : k = 0 ∨ k = 1 ∨ k = 2 ∨ k = 3 ∨ k = 4 ∨ k = 5 ∨ k = 6 ∨ k = 7 ∨ k = 8 ∨ k = 9) with rfl | rfl | rfl | rfl | rfl | rfl | rfl | rfl | rfl | rfl
  · exact tb_at 459 (by decide +kernel) (by decide +kernel)
  · exact tb_at 461 (by decide +kernel) (by decide +kernel)
  · exact tb_at 463 (by decide +kernel) (by decide +kernel)
  · exact tb_at 465 (by decide +kernel) (by decide +kernel)
  · exact tb_at 467 (by decide +kernel) (by decide +kernel)
  · exact tb_at 469 (by decide +kernel) (by decide +kernel)
  · exact tb_at 471 (by decide +kernel) (by decide +kernel)
  · exact tb_at 473 (by decide +kernel) (by decide +kernel)
  · exact tb_at 475 (by decide +kernel) (by decide +kernel)
  · exact tb_at 477 (by decide +kernel) (by decide +kernel)
theorem ok_Bd : CEok E_Bd := by
  refine ⟨fun w hw => ?_, tb_at 391 (by decide +kernel) (by decide +kernel), by decide +kernel, by decide +kernel, tb_at 87 (by decide +kernel) (by decide +kernel)⟩
  obtain ⟨k, hk, rfl⟩ := List.mem_map.mp hw
  have hk : k < 4 := List.mem_range.mp hk
  rcases (by omega : k = 0 ∨ k = 1 ∨ k = 2 ∨ k = 3) with rfl | rfl | rfl | rfl
  · exact tb_at 408 (by decide +kernel) (by decide +kernel)
  · exact tb_at 410 (by decide +kernel) (by decide +kernel)
  · exact tb_at 412 (by decide +kernel) (by decide +kernel)
  · exact tb_at 414 (by decide +kernel) (by decide +kernel)
theorem ok_Cd : CEok E_Cd := by
  refine ⟨fun w hw => ?_, tb_at 110 (by decide +kernel) (by decide +kernel), by decide +kernel, by decide +kernel, tb_at 77 (by decide +kernel) (by decide +kernel)⟩
  obtain ⟨k, hk, rfl⟩ := List.mem_map.mp hw
  have hk : k < 6 := List.mem_range.mp hk
  rcases (by omega : k = 0 ∨ k = 1 ∨ k = 2 ∨ k = 3 ∨ k = 4 ∨ k = 5) with rfl | rfl | rfl | rfl | rfl | rfl
  · exact tb_at 125 (by decide +kernel) (by decide +kernel)
  · exact tb_at 127 (by decide +kernel) (by decide +kernel)
  · exact tb_at 129 (by decide +kernel) (by decide +kernel)
  · exact tb_at 131 (by decide +kernel) (by decide +kernel)
  · exact tb_at 133 (by decide +kernel) (by decide +kernel)
  · exact tb_at 135 (by decide +kernel) (by decide +kernel)
theorem ok_Gr : CEok E_Gr := by
  refine ⟨fun w hw => ?_, tb_at 291 (by decide +kernel) (by decide +kernel), by decide +kernel, by decide +kernel, tb_at 83 (by decide +kernel) (by decide +kernel)⟩
  obtain ⟨k, hk, rfl⟩ := List.mem_map.mp hw
  have hk : k < 4 := List.mem_range.mp hk
  rcases (by omega : k = 0 ∨ k = 1 ∨ k = 2 ∨ k = 3) with rfl | rfl | rfl | rfl
  · exact tb_at 302 (by decide +kernel) (by decide +kernel)
  · exact tb_at 304 (by decide +kernel) (by decide +kernel)
  · exact tb_at 306 (by decide +kernel) (by decide +kernel)
  · exact tb_at 308 (by decide +kernel) (by decide +kernel)
theorem ok_Nm : CEok E_Nm := by
  refine ⟨fun w hw => ?_, tb_at 312 (by decide +kernel) (by decide +kernel), by decide +kernel, by decide +kernel, tb_at 84 (by decide +kernel) (by decide +kernel)⟩
  obtain ⟨k, hk, rfl⟩ := List.mem_map.mp hw
  have hk : k < 8 := List.mem_range.mp hk
  rcases (by omega : k = 0 ∨ k = 1 ∨ k = 2 ∨ k = 3 ∨ k = 4 ∨ k = 5 ∨ k = 6 ∨ k = 7) with rfl | rfl | rfl | rfl | rfl | rfl | rfl | rfl
  · exact tb_at 326 (by decide +kernel) (by decide +kernel)
  · exact tb_at 328 (by decide +kernel) (by decide +kernel)
  · exact tb_at 330 (by decide +kernel) (by decide +kernel)
  · exact tb_at 332 (by decide +kernel) (by decide +kernel)
  · exact tb_at 334 (by decide +kernel) (by decide +kernel)
  · exact tb_at 336 (by decide +kernel) (by decide +kernel)
  · exact tb_at 338 (by decide +kernel) (by decide +kernel)
  · exact tb_at 340 (by decide +kernel) (by decide +kernel)
theorem ok_Od : CEok E_Od := by
  refine ⟨fun w hw => ?_, tb_at 171 (by decide +kernel) (by decide +kernel), by decide +kernel, by decide +kernel, tb_at 79 (by decide +kernel) (by decide +kernel)⟩
  obtain ⟨k, hk, rfl⟩ := List.mem_map.mp hw
  have hk : k < 9 := List.mem_range.mp hk
  rcases (by omega : k = 0 ∨ k = 1 ∨ k = 2 ∨ k = 3 ∨ k = 4 ∨ k = 5 ∨ k = 6 ∨ k = 7 ∨ k = 8) with rfl | rfl | rfl | rfl | rfl | rfl | rfl | rfl | rfl
  · exact tb_at 201 (by decide +kernel) (by decide +kernel)
  · exact tb_at 203 (by decide +kernel) (by decide +kernel)
  · exact tb_at 205 (by decide +kernel) (by decide +kernel)
  · exact tb_at 207 (by decide +kernel) (by decide +kernel)
  · exact tb_at 209 (by decide +kernel) (by decide +kernel)
  · exact tb_at 211 (by decide +kernel) (by decide +kernel)
  · exact tb_at 213 (by decide +kernel) (by decide +kernel)
  · exact tb_at 215 (by decide +kernel) (by decide +kernel)
  · exact tb_at 217 (by decide +kernel) (by decide +kernel)
theorem ok_Pl : CEok E_Pl := by
  refine ⟨fun w hw => ?_, tb_at 104 (by decide +kernel) (by decide +kernel), by decide +kernel, by decide +kernel, tb_at 76 (by decide +kernel) (by decide +kernel)⟩
  obtain ⟨k, hk, rfl⟩ := List.mem_map.mp hw
  have hk : k < 7 := List.mem_range.mp hk
  rcases (by omega : k = 0 ∨ k = 1 ∨ k = 2 ∨ k = 3 ∨ k = 4 ∨ k = 5 ∨ k = 6) with rfl | rfl | rfl | rfl | rfl | rfl | rfl
  · exact tb_at 242 (by decide +kernel) (by decide +kernel)
  · exact tb_at 244 (by decide +kernel) (by decide +kernel)
  · exact tb_at 246 (by decide +kernel) (by decide +kernel)
  · exact tb_at 248 (by decide +kernel) (by decide +kernel)
  · exact tb_at 250 (by decide +kernel) (by decide +kernel)
  · exact tb_at 252 (by decide +kernel) (by decide +kernel)
  · exact tb_at 254 (by decide +kernel) (by decide +kernel)
theorem ok_Rd : CEok E_Rd := by
  refine ⟨fun w hw => ?_, tb_at 144 (by decide +kernel) (by decide +kernel), by decide +kernel, by decide +kernel, tb_at 78 (by decide +kernel) (by decide +kernel)⟩
  obtain ⟨k, hk, rfl⟩ := List.mem_map.mp hw
  have hk : k < 5 := List.mem_range.mp hk
  rcases (by omega : k = 0 ∨ k = 1 ∨ k = 2 ∨ k = 3 ∨ k = 4) with rfl | rfl | rfl | rfl | rfl
  · exact tb_at 160 (by decide +kernel) (by decide +kernel)
  · exact tb_at 162 (by decide +kernel) (by decide +kernel)
  · exact tb_at 164 (by decide +kernel) (by decide +kernel)
  · exact tb_at 166 (by decide +kernel) (by decide +kernel)
  · exact tb_at 168 (by decide +kernel) (by decide +kernel)
theorem ok_Sh : CEok E_Sh := by
  refine ⟨fun w hw => ?_, tb_at 354 (by decide +kernel) (by decide +kernel), by decide +kernel, by decide +kernel, tb_at 86 (by decide +kernel) (by decide +kernel)⟩
  obtain ⟨k, hk, rfl⟩ := List.mem_map.mp hw
  have hk : k < 7 := List.mem_range.mp hk
  rcases (by omega : k = 0 ∨ k = 1 ∨ k = 2 ∨ k = 3 ∨ k = 4 ∨ k = 5 ∨ k = 6) with rfl | rfl | rfl | rfl | rfl | rfl | rfl
  · exact tb_at 376 (by decide +kernel) (by decide +kernel)
  · exact tb_at 378 (by decide +kernel) (by decide +kernel)
  · exact tb_at 380 (by decide +kernel) (by decide +kernel)
  · exact tb_at 382 (by decide +kernel) (by decide +kernel)
  · exact tb_at 384 (by decide +kernel) (by decide +kernel)
  · exact tb_at 386 (by decide +kernel) (by decide +kernel)
  · exact tb_at 388 (by decide +kernel) (by decide +kernel)
theorem ok_Tk : CEok E_Tk := by
  refine ⟨fun w hw => ?_, tb_at 258 (by decide +kernel) (by decide +kernel), by decide +kernel, by decide +kernel, tb_at 82 (by decide +kernel) (by decide +kernel)⟩
  obtain ⟨k, hk, rfl⟩ := List.mem_map.mp hw
  have hk : k < 7 := List.mem_range.mp hk
  rcases (by omega : k = 0 ∨ k = 1 ∨ k = 2 ∨ k = 3 ∨ k = 4 ∨ k = 5 ∨ k = 6) with rfl | rfl | rfl | rfl | rfl | rfl | rfl
  · exact tb_at 274 (by decide +kernel) (by decide +kernel)
  · exact tb_at 276 (by decide +kernel) (by decide +kernel)
  · exact tb_at 278 (by decide +kernel) (by decide +kernel)
  · exact tb_at 280 (by decide +kernel) (by decide +kernel)
  · exact tb_at 282 (by decide +kernel) (by decide +kernel)
  · exact tb_at 284 (by decide +kernel) (by decide +kernel)
  · exact tb_at 286 (by decide +kernel) (by decide +kernel)
theorem ok_Wd : CEok E_Wd := by
  refine ⟨fun w hw => ?_, tb_at 344 (by decide +kernel) (by decide +kernel), by decide +kernel, by decide +kernel, tb_at 85 (by decide +kernel) (by decide +kernel)⟩
  obtain ⟨k, hk, rfl⟩ := List.mem_map.mp hw
  have hk : k < 8 := List.mem_range.mp hk
  rcases (by omega : k = 0 ∨ k = 1 ∨ k = 2 ∨ k = 3 ∨ k = 4 ∨ k = 5 ∨ k = 6 ∨ k = 7) with rfl | rfl | rfl | rfl | rfl | rfl | rfl | rfl
  · exact tb_at 432 (by decide +kernel) (by decide +kernel)
  · exact tb_at 434 (by decide +kernel) (by decide +kernel)
  · exact tb_at 436 (by decide +kernel) (by decide +kernel)
  · exact tb_at 438 (by decide +kernel) (by decide +kernel)
  · exact tb_at 440 (by decide +kernel) (by decide +kernel)
  · exact tb_at 442 (by decide +kernel) (by decide +kernel)
  · exact tb_at 444 (by decide +kernel) (by decide +kernel)
  · exact tb_at 446 (by decide +kernel) (by decide +kernel)
theorem ok_SI : CEok E_SI := by
  refine ⟨fun w hw => ?_, tb_at 1175 (by decide +kernel) (by decide +kernel), by decide +kernel, by decide +kernel, tb_at 67 (by decide +kernel) (by decide +kernel)⟩
  obtain ⟨k, hk, rfl⟩ := List.mem_map.mp hw
  have hk : k < 15 := List.mem_range.mp hk
  rcases (by omega : k = 0 ∨ k = 1 ∨ k = 2 ∨ k = 3 ∨ k = 4 ∨ k = 5 ∨ k = 6 ∨ k = 7 ∨ k = 8 ∨ k = 9 ∨ k = 10 ∨ k = 11 ∨ k = 12 ∨ k = 13 ∨ k = 14) with rfl | rfl | rfl | rfl | rfl | rfl | rfl | rfl | rfl | rfl | rfl | rfl | rfl | rfl | rfl
  · exact tb_at 1206 (by decide +kernel) (by decide +kernel)
  · exact tb_at 1208 (by decide +kernel) (by decide +kernel)
  · exact tb_at 1210 (by decide +kernel) (by decide +kernel)
  · exact tb_at 1212 (by decide +kernel) (by decide +kernel)
  · exact tb_at 1214 (by decide +kernel) (by decide +kernel)
  · exact tb_at 1216 (by decide +kernel) (by decide +kernel)
  · exact tb_at 1218 (by decide +kernel) (by decide +kernel)
  · exact tb_at 1220 (by decide +kernel) (by decide +kernel)
  · exact tb_at 1222 (by decide +kernel) (by decide +kernel)
  · exact tb_at 1224 (by decide +kernel) (by decide +kernel)
  · exact tb_at 1226 (by decide +kernel) (by decide +kernel)
  · exact tb_at 1228 (by decide +kernel) (by decide +kernel)
  · exact tb_at 1230 (by decide +kernel) (by decide +kernel)
  · exact tb_at 1232 (by decide +kernel) (by decide +kernel)
  · exact tb_at 1234 (by decide +kernel) (by decide +kernel)
theorem ok_SB : CEok E_SB := by
  refine ⟨fun w hw => ?_, tb_at 1388 (by decide +kernel) (by decide +kernel), by decide +kernel, by decide +kernel, tb_at 64 (by decide +kernel) (by decide +kernel)⟩
  obtain ⟨k, hk, rfl⟩ := List.mem_map.mp hw
  have hk : k < 4 := List.mem_range.mp hk
  rcases (by omega : k = 0 ∨ k = 1 ∨ k = 2 ∨ k = 3) with rfl | rfl | rfl | rfl
  · exact tb_at 1400 (by decide +kernel) (by decide +kernel)
  · exact tb_at 1402 (by decide +kernel) (by decide +kernel)
  · exact tb_at 1404 (by decide +kernel) (by decide +kernel)
  · exact tb_at 1406 (by decide +kernel) (by decide +kernel)
theorem ok_St : CEok E_St := by
  refine ⟨fun w hw => ?_, tb_at 1415 (by decide +kernel) (by decide +kernel), by decide +kernel, by decide +kernel, tb_at 65 (by decide +kernel) (by decide +kernel)⟩
  obtain ⟨k, hk, rfl⟩ := List.mem_map.mp hw
  have hk : k < 4 := List.mem_range.mp hk
  rcases (by omega : k = 0 ∨ k = 1 ∨ k = 2 ∨ k = 3) with rfl | rfl | rfl | rfl
  · exact tb_at 1458 (by decide +kernel) (by decide +kernel)
  · exact tb_at 1460 (by decide +kernel) (by decide +kernel)
  · exact tb_at 1462 (by decide +kernel) (by decide +kernel)
  · exact tb_at 1464 (by decide +kernel) (by decide +kernel)
theorem mok_Bd_init : MOK K_Bd_init 0 := ⟨tb_at 394 (by decide +kernel) (by decide +kernel), tb_at 87 (by decide +kernel) (by decide +kernel), by decide +kernel, by decide +kernel, by decide +kernel⟩
theorem mok_Bd_clear : MOK K_Bd_clear 0 := ⟨tb_at 399 (by decide +kernel) (by decide +kernel), tb_at 87 (by decide +kernel) (by decide +kernel), by decide +kernel, by decide +kernel, by decide +kernel⟩
theorem mok_Bd_has : MOK K_Bd_has 1 := ⟨tb_at 641 (by decide +kernel) (by decide +kernel), tb_at 87 (by decide +kernel) (by decide +kernel), by decide +kernel, by decide +kernel, by decide +kernel⟩
theorem mok_Bd_knownCount : MOK K_Bd_knownCount 0 := ⟨tb_at 607 (by decide +kernel) (by decide +kernel), tb_at 87 (by decide +kernel) (by decide +kernel), by decide +kernel, by decide +kernel, by decide +kernel⟩
theorem mok_Bd_canHang : MOK K_Bd_canHang 1 := ⟨tb_at 1725 (by decide +kernel) (by decide +kernel), tb_at 87 (by decide +kernel) (by decide +kernel), by decide +kernel, by decide +kernel, by decide +kernel⟩
theorem mok_Bd_keepWaiting : MOK K_Bd_keepWaiting 1 := ⟨tb_at 1717 (by decide +kernel) (by decide +kernel), tb_at 87 (by decide +kernel) (by decide +kernel), by decide +kernel, by decide +kernel, by decide +kernel⟩
theorem mok_Bd_endWaiting : MOK K_Bd_endWaiting 1 := ⟨tb_at 1733 (by decide +kernel) (by decide +kernel), tb_at 87 (by decide +kernel) (by decide +kernel), by decide +kernel, by decide +kernel, by decide +kernel⟩
theorem mok_Bd_show : MOK K_Bd_show 3 := ⟨tb_at 1549 (by decide +kernel) (by decide +kernel), tb_at 87 (by decide +kernel) (by decide +kernel), by decide +kernel, by decide +kernel, by decide +kernel⟩
theorem mok_Bd_shownFrom : MOK K_Bd_shownFrom 2 := ⟨tb_at 586 (by decide +kernel) (by decide +kernel), tb_at 87 (by decide +kernel) (by decide +kernel), by decide +kernel, by decide +kernel, by decide +kernel⟩
theorem mok_Bd_shownAt : MOK K_Bd_shownAt 2 := ⟨tb_at 664 (by decide +kernel) (by decide +kernel), tb_at 87 (by decide +kernel) (by decide +kernel), by decide +kernel, by decide +kernel, by decide +kernel⟩
theorem mok_Bd_shownCount : MOK K_Bd_shownCount 1 := ⟨tb_at 582 (by decide +kernel) (by decide +kernel), tb_at 87 (by decide +kernel) (by decide +kernel), by decide +kernel, by decide +kernel, by decide +kernel⟩
theorem mok_Bd_noticesWith : MOK K_Bd_noticesWith 1 := ⟨tb_at 578 (by decide +kernel) (by decide +kernel), tb_at 87 (by decide +kernel) (by decide +kernel), by decide +kernel, by decide +kernel, by decide +kernel⟩
theorem mok_Bd_showsAsMuchAs : MOK K_Bd_showsAsMuchAs 1 := ⟨tb_at 754 (by decide +kernel) (by decide +kernel), tb_at 87 (by decide +kernel) (by decide +kernel), by decide +kernel, by decide +kernel, by decide +kernel⟩
theorem mok_Cd_init : MOK K_Cd_init 0 := ⟨tb_at 113 (by decide +kernel) (by decide +kernel), tb_at 77 (by decide +kernel) (by decide +kernel), by decide +kernel, by decide +kernel, by decide +kernel⟩
theorem mok_Cd_add : MOK K_Cd_add 2 := ⟨tb_at 997 (by decide +kernel) (by decide +kernel), tb_at 77 (by decide +kernel) (by decide +kernel), by decide +kernel, by decide +kernel, by decide +kernel⟩
theorem mok_Cd_settle : MOK K_Cd_settle 1 := ⟨tb_at 1150 (by decide +kernel) (by decide +kernel), tb_at 77 (by decide +kernel) (by decide +kernel), by decide +kernel, by decide +kernel, by decide +kernel⟩
theorem mok_Cd_reckon : MOK K_Cd_reckon 3 := ⟨tb_at 1676 (by decide +kernel) (by decide +kernel), tb_at 77 (by decide +kernel) (by decide +kernel), by decide +kernel, by decide +kernel, by decide +kernel⟩
theorem mok_Cd_joined : MOK K_Cd_joined 3 := ⟨tb_at 1690 (by decide +kernel) (by decide +kernel), tb_at 77 (by decide +kernel) (by decide +kernel), by decide +kernel, by decide +kernel, by decide +kernel⟩
theorem mok_Cd_compares : MOK K_Cd_compares 3 := ⟨tb_at 1695 (by decide +kernel) (by decide +kernel), tb_at 77 (by decide +kernel) (by decide +kernel), by decide +kernel, by decide +kernel, by decide +kernel⟩
theorem mok_Cd_push : MOK K_Cd_push 1 := ⟨tb_at 1682 (by decide +kernel) (by decide +kernel), tb_at 77 (by decide +kernel) (by decide +kernel), by decide +kernel, by decide +kernel, by decide +kernel⟩
theorem mok_Cd_pop : MOK K_Cd_pop 0 := ⟨tb_at 1687 (by decide +kernel) (by decide +kernel), tb_at 77 (by decide +kernel) (by decide +kernel), by decide +kernel, by decide +kernel, by decide +kernel⟩
theorem mok_Gr_init : MOK K_Gr_init 2 := ⟨tb_at 294 (by decide +kernel) (by decide +kernel), tb_at 83 (by decide +kernel) (by decide +kernel), by decide +kernel, by decide +kernel, by decide +kernel⟩
theorem mok_Gr_firstMisfit : MOK K_Gr_firstMisfit 1 := ⟨tb_at 933 (by decide +kernel) (by decide +kernel), tb_at 83 (by decide +kernel) (by decide +kernel), by decide +kernel, by decide +kernel, by decide +kernel⟩
theorem mok_Gr_line : MOK K_Gr_line 0 := ⟨tb_at 942 (by decide +kernel) (by decide +kernel), tb_at 83 (by decide +kernel) (by decide +kernel), by decide +kernel, by decide +kernel, by decide +kernel⟩
theorem mok_Gr_roadLine : MOK K_Gr_roadLine 0 := ⟨tb_at 959 (by decide +kernel) (by decide +kernel), tb_at 83 (by decide +kernel) (by decide +kernel), by decide +kernel, by decide +kernel, by decide +kernel⟩
theorem mok_Gr_orderLine : MOK K_Gr_orderLine 1 := ⟨tb_at 976 (by decide +kernel) (by decide +kernel), tb_at 83 (by decide +kernel) (by decide +kernel), by decide +kernel, by decide +kernel, by decide +kernel⟩
theorem mok_Gr_wayOfMerging : MOK K_Gr_wayOfMerging 0 := ⟨tb_at 1039 (by decide +kernel) (by decide +kernel), tb_at 83 (by decide +kernel) (by decide +kernel), by decide +kernel, by decide +kernel, by decide +kernel⟩
theorem mok_Gr_test : MOK K_Gr_test 1 := ⟨tb_at 1051 (by decide +kernel) (by decide +kernel), tb_at 83 (by decide +kernel) (by decide +kernel), by decide +kernel, by decide +kernel, by decide +kernel⟩
theorem mok_Gr_both : MOK K_Gr_both 1 := ⟨tb_at 1055 (by decide +kernel) (by decide +kernel), tb_at 83 (by decide +kernel) (by decide +kernel), by decide +kernel, by decide +kernel, by decide +kernel⟩
theorem mok_Gr_single : MOK K_Gr_single 1 := ⟨tb_at 1059 (by decide +kernel) (by decide +kernel), tb_at 83 (by decide +kernel) (by decide +kernel), by decide +kernel, by decide +kernel, by decide +kernel⟩
theorem mok_Gr_takeComparison : MOK K_Gr_takeComparison 0 := ⟨tb_at 1069 (by decide +kernel) (by decide +kernel), tb_at 83 (by decide +kernel) (by decide +kernel), by decide +kernel, by decide +kernel, by decide +kernel⟩
theorem mok_Gr_sum : MOK K_Gr_sum 1 := ⟨tb_at 985 (by decide +kernel) (by decide +kernel), tb_at 83 (by decide +kernel) (by decide +kernel), by decide +kernel, by decide +kernel, by decide +kernel⟩
theorem mok_Gr_product : MOK K_Gr_product 1 := ⟨tb_at 989 (by decide +kernel) (by decide +kernel), tb_at 83 (by decide +kernel) (by decide +kernel), by decide +kernel, by decide +kernel, by decide +kernel⟩
theorem mok_Gr_value : MOK K_Gr_value 1 := ⟨tb_at 993 (by decide +kernel) (by decide +kernel), tb_at 83 (by decide +kernel) (by decide +kernel), by decide +kernel, by decide +kernel, by decide +kernel⟩
theorem mok_Gr_pair : MOK K_Gr_pair 1 := ⟨tb_at 1019 (by decide +kernel) (by decide +kernel), tb_at 83 (by decide +kernel) (by decide +kernel), by decide +kernel, by decide +kernel, by decide +kernel⟩
theorem mok_Gr_board : MOK K_Gr_board 1 := ⟨tb_at 1001 (by decide +kernel) (by decide +kernel), tb_at 83 (by decide +kernel) (by decide +kernel), by decide +kernel, by decide +kernel, by decide +kernel⟩
theorem mok_Gr_goesDeeper : MOK K_Gr_goesDeeper 2 := ⟨tb_at 1009 (by decide +kernel) (by decide +kernel), tb_at 83 (by decide +kernel) (by decide +kernel), by decide +kernel, by decide +kernel, by decide +kernel⟩
theorem mok_Gr_take : MOK K_Gr_take 1 := ⟨tb_at 954 (by decide +kernel) (by decide +kernel), tb_at 83 (by decide +kernel) (by decide +kernel), by decide +kernel, by decide +kernel, by decide +kernel⟩
theorem mok_Nm_init : MOK K_Nm_init 2 := ⟨tb_at 315 (by decide +kernel) (by decide +kernel), tb_at 84 (by decide +kernel) (by decide +kernel), by decide +kernel, by decide +kernel, by decide +kernel⟩
theorem mok_Nm_firstError : MOK K_Nm_firstError 1 := ⟨tb_at 1083 (by decide +kernel) (by decide +kernel), tb_at 84 (by decide +kernel) (by decide +kernel), by decide +kernel, by decide +kernel, by decide +kernel⟩
theorem mok_Nm_look : MOK K_Nm_look 1 := ⟨tb_at 1087 (by decide +kernel) (by decide +kernel), tb_at 84 (by decide +kernel) (by decide +kernel), by decide +kernel, by decide +kernel, by decide +kernel⟩
theorem mok_Nm_tell : MOK K_Nm_tell 3 := ⟨tb_at 1094 (by decide +kernel) (by decide +kernel), tb_at 84 (by decide +kernel) (by decide +kernel), by decide +kernel, by decide +kernel, by decide +kernel⟩
theorem mok_Nm_find : MOK K_Nm_find 3 := ⟨tb_at 1109 (by decide +kernel) (by decide +kernel), tb_at 84 (by decide +kernel) (by decide +kernel), by decide +kernel, by decide +kernel, by decide +kernel⟩
theorem mok_Nm_findBoard : MOK K_Nm_findBoard 1 := ⟨tb_at 1138 (by decide +kernel) (by decide +kernel), tb_at 84 (by decide +kernel) (by decide +kernel), by decide +kernel, by decide +kernel, by decide +kernel⟩
theorem mok_Nm_findOtherParish : MOK K_Nm_findOtherParish 2 := ⟨tb_at 1117 (by decide +kernel) (by decide +kernel), tb_at 84 (by decide +kernel) (by decide +kernel), by decide +kernel, by decide +kernel, by decide +kernel⟩
theorem mok_Nm_layRoad : MOK K_Nm_layRoad 1 := ⟨tb_at 1125 (by decide +kernel) (by decide +kernel), tb_at 84 (by decide +kernel) (by decide +kernel), by decide +kernel, by decide +kernel, by decide +kernel⟩
theorem mok_Nm_countOrder : MOK K_Nm_countOrder 1 := ⟨tb_at 1134 (by decide +kernel) (by decide +kernel), tb_at 84 (by decide +kernel) (by decide +kernel), by decide +kernel, by decide +kernel, by decide +kernel⟩
theorem mok_Nm_placeOf : MOK K_Nm_placeOf 3 := ⟨tb_at 1101 (by decide +kernel) (by decide +kernel), tb_at 84 (by decide +kernel) (by decide +kernel), by decide +kernel, by decide +kernel, by decide +kernel⟩
theorem mok_Nm_fail : MOK K_Nm_fail 2 := ⟨tb_at 1105 (by decide +kernel) (by decide +kernel), tb_at 84 (by decide +kernel) (by decide +kernel), by decide +kernel, by decide +kernel, by decide +kernel⟩
theorem mok_Od_init : MOK K_Od_init 0 := ⟨tb_at 174 (by decide +kernel) (by decide +kernel), tb_at 79 (by decide +kernel) (by decide +kernel), by decide +kernel, by decide +kernel, by decide +kernel⟩
theorem mok_Od_settle : MOK K_Od_settle 1 := ⟨tb_at 1157 (by decide +kernel) (by decide +kernel), tb_at 79 (by decide +kernel) (by decide +kernel), by decide +kernel, by decide +kernel, by decide +kernel⟩
theorem mok_Od_hasTest : MOK K_Od_hasTest 0 := ⟨tb_at 1672 (by decide +kernel) (by decide +kernel), tb_at 79 (by decide +kernel) (by decide +kernel), by decide +kernel, by decide +kernel, by decide +kernel⟩
theorem mok_Pl_init : MOK K_Pl_init 0 := ⟨tb_at 107 (by decide +kernel) (by decide +kernel), tb_at 76 (by decide +kernel) (by decide +kernel), by decide +kernel, by decide +kernel, by decide +kernel⟩
theorem mok_Pl_clear : MOK K_Pl_clear 0 := ⟨tb_at 929 (by decide +kernel) (by decide +kernel), tb_at 76 (by decide +kernel) (by decide +kernel), by decide +kernel, by decide +kernel, by decide +kernel⟩
theorem mok_Pl_nextOrder : MOK K_Pl_nextOrder 0 := ⟨tb_at 972 (by decide +kernel) (by decide +kernel), tb_at 76 (by decide +kernel) (by decide +kernel), by decide +kernel, by decide +kernel, by decide +kernel⟩
theorem mok_Pl_settle : MOK K_Pl_settle 1 := ⟨tb_at 1146 (by decide +kernel) (by decide +kernel), tb_at 76 (by decide +kernel) (by decide +kernel), by decide +kernel, by decide +kernel, by decide +kernel⟩
theorem mok_Rd_init : MOK K_Rd_init 0 := ⟨tb_at 147 (by decide +kernel) (by decide +kernel), tb_at 78 (by decide +kernel) (by decide +kernel), by decide +kernel, by decide +kernel, by decide +kernel⟩
theorem mok_Rd_lay : MOK K_Rd_lay 3 := ⟨tb_at 1130 (by decide +kernel) (by decide +kernel), tb_at 78 (by decide +kernel) (by decide +kernel), by decide +kernel, by decide +kernel, by decide +kernel⟩
theorem mok_Rd_copyFrom : MOK K_Rd_copyFrom 1 := ⟨tb_at 1167 (by decide +kernel) (by decide +kernel), tb_at 78 (by decide +kernel) (by decide +kernel), by decide +kernel, by decide +kernel, by decide +kernel⟩
theorem mok_Sh_init : MOK K_Sh_init 0 := ⟨tb_at 357 (by decide +kernel) (by decide +kernel), tb_at 86 (by decide +kernel) (by decide +kernel), by decide +kernel, by decide +kernel, by decide +kernel⟩
theorem mok_Sh_isAheadOf : MOK K_Sh_isAheadOf 1 := ⟨tb_at 674 (by decide +kernel) (by decide +kernel), tb_at 86 (by decide +kernel) (by decide +kernel), by decide +kernel, by decide +kernel, by decide +kernel⟩
theorem mok_Tk_init : MOK K_Tk_init 0 := ⟨tb_at 261 (by decide +kernel) (by decide +kernel), tb_at 82 (by decide +kernel) (by decide +kernel), by decide +kernel, by decide +kernel, by decide +kernel⟩
theorem mok_Tk_scan : MOK K_Tk_scan 2 := ⟨tb_at 870 (by decide +kernel) (by decide +kernel), tb_at 82 (by decide +kernel) (by decide +kernel), by decide +kernel, by decide +kernel, by decide +kernel⟩
theorem mok_Tk_kindAt : MOK K_Tk_kindAt 1 := ⟨tb_at 937 (by decide +kernel) (by decide +kernel), tb_at 82 (by decide +kernel) (by decide +kernel), by decide +kernel, by decide +kernel, by decide +kernel⟩
theorem mok_Tk_startAt : MOK K_Tk_startAt 1 := ⟨tb_at 1079 (by decide +kernel) (by decide +kernel), tb_at 82 (by decide +kernel) (by decide +kernel), by decide +kernel, by decide +kernel, by decide +kernel⟩
theorem mok_Tk_worthAt : MOK K_Tk_worthAt 1 := ⟨tb_at 1098 (by decide +kernel) (by decide +kernel), tb_at 82 (by decide +kernel) (by decide +kernel), by decide +kernel, by decide +kernel, by decide +kernel⟩
theorem mok_Tk_meaningAt : MOK K_Tk_meaningAt 1 := ⟨tb_at 1121 (by decide +kernel) (by decide +kernel), tb_at 82 (by decide +kernel) (by decide +kernel), by decide +kernel, by decide +kernel, by decide +kernel⟩
theorem mok_Tk_setMeaning : MOK K_Tk_setMeaning 2 := ⟨tb_at 1113 (by decide +kernel) (by decide +kernel), tb_at 82 (by decide +kernel) (by decide +kernel), by decide +kernel, by decide +kernel, by decide +kernel⟩
theorem mok_Tk_behindToken : MOK K_Tk_behindToken 2 := ⟨tb_at 882 (by decide +kernel) (by decide +kernel), tb_at 82 (by decide +kernel) (by decide +kernel), by decide +kernel, by decide +kernel, by decide +kernel⟩
theorem mok_Tk_behindBlanks : MOK K_Tk_behindBlanks 1 := ⟨tb_at 874 (by decide +kernel) (by decide +kernel), tb_at 82 (by decide +kernel) (by decide +kernel), by decide +kernel, by decide +kernel, by decide +kernel⟩
theorem mok_Tk_behindRun : MOK K_Tk_behindRun 1 := ⟨tb_at 889 (by decide +kernel) (by decide +kernel), tb_at 82 (by decide +kernel) (by decide +kernel), by decide +kernel, by decide +kernel, by decide +kernel⟩
theorem mok_Tk_kindOf : MOK K_Tk_kindOf 2 := ⟨tb_at 911 (by decide +kernel) (by decide +kernel), tb_at 82 (by decide +kernel) (by decide +kernel), by decide +kernel, by decide +kernel, by decide +kernel⟩
theorem mok_Tk_symbolAt : MOK K_Tk_symbolAt 1 := ⟨tb_at 899 (by decide +kernel) (by decide +kernel), tb_at 82 (by decide +kernel) (by decide +kernel), by decide +kernel, by decide +kernel, by decide +kernel⟩
theorem mok_Tk_standsAt : MOK K_Tk_standsAt 2 := ⟨tb_at 906 (by decide +kernel) (by decide +kernel), tb_at 82 (by decide +kernel) (by decide +kernel), by decide +kernel, by decide +kernel, by decide +kernel⟩
theorem mok_Tk_numberWorth : MOK K_Tk_numberWorth 2 := ⟨tb_at 919 (by decide +kernel) (by decide +kernel), tb_at 82 (by decide +kernel) (by decide +kernel), by decide +kernel, by decide +kernel, by decide +kernel⟩
theorem mok_Tk_nameWorth : MOK K_Tk_nameWorth 2 := ⟨tb_at 924 (by decide +kernel) (by decide +kernel), tb_at 82 (by decide +kernel) (by decide +kernel), by decide +kernel, by decide +kernel, by decide +kernel⟩
theorem mok_Tk_byteAt : MOK K_Tk_byteAt 1 := ⟨tb_at 878 (by decide +kernel) (by decide +kernel), tb_at 82 (by decide +kernel) (by decide +kernel), by decide +kernel, by decide +kernel, by decide +kernel⟩
theorem mok_Tk_isLetter : MOK K_Tk_isLetter 1 := ⟨tb_at 892 (by decide +kernel) (by decide +kernel), tb_at 82 (by decide +kernel) (by decide +kernel), by decide +kernel, by decide +kernel, by decide +kernel⟩
theorem mok_Tk_isDigit : MOK K_Tk_isDigit 1 := ⟨tb_at 895 (by decide +kernel) (by decide +kernel), tb_at 82 (by decide +kernel) (by decide +kernel), by decide +kernel, by decide +kernel, by decide +kernel⟩
theorem mok_Wd_init : MOK K_Wd_init 1 := ⟨tb_at 347 (by decide +kernel) (by decide +kernel), tb_at 85 (by decide +kernel) (by decide +kernel), by decide +kernel, by decide +kernel, by decide +kernel⟩
theorem mok_Wd_begin : MOK K_Wd_begin 1 := ⟨tb_at 1162 (by decide +kernel) (by decide +kernel), tb_at 85 (by decide +kernel) (by decide +kernel), by decide +kernel, by decide +kernel, by decide +kernel⟩
theorem mok_Wd_tally : MOK K_Wd_tally 1 := ⟨tb_at 558 (by decide +kernel) (by decide +kernel), tb_at 85 (by decide +kernel) (by decide +kernel), by decide +kernel, by decide +kernel, by decide +kernel⟩
theorem mok_Wd_parishFact : MOK K_Wd_parishFact 2 := ⟨tb_at 603 (by decide +kernel) (by decide +kernel), tb_at 85 (by decide +kernel) (by decide +kernel), by decide +kernel, by decide +kernel, by decide +kernel⟩
theorem mok_Wd_sheetFact : MOK K_Wd_sheetFact 2 := ⟨tb_at 629 (by decide +kernel) (by decide +kernel), tb_at 85 (by decide +kernel) (by decide +kernel), by decide +kernel, by decide +kernel, by decide +kernel⟩
theorem mok_Wd_roadFact : MOK K_Wd_roadFact 2 := ⟨tb_at 709 (by decide +kernel) (by decide +kernel), tb_at 85 (by decide +kernel) (by decide +kernel), by decide +kernel, by decide +kernel, by decide +kernel⟩
theorem mok_Wd_isKnownAt : MOK K_Wd_isKnownAt 2 := ⟨tb_at 637 (by decide +kernel) (by decide +kernel), tb_at 85 (by decide +kernel) (by decide +kernel), by decide +kernel, by decide +kernel, by decide +kernel⟩
theorem mok_Wd_knowers : MOK K_Wd_knowers 1 := ⟨tb_at 633 (by decide +kernel) (by decide +kernel), tb_at 85 (by decide +kernel) (by decide +kernel), by decide +kernel, by decide +kernel, by decide +kernel⟩
theorem mok_Wd_knownOnBoards : MOK K_Wd_knownOnBoards 0 := ⟨tb_at 687 (by decide +kernel) (by decide +kernel), tb_at 85 (by decide +kernel) (by decide +kernel), by decide +kernel, by decide +kernel, by decide +kernel⟩
theorem mok_Wd_showers : MOK K_Wd_showers 1 := ⟨tb_at 645 (by decide +kernel) (by decide +kernel), tb_at 85 (by decide +kernel) (by decide +kernel), by decide +kernel, by decide +kernel, by decide +kernel⟩
theorem mok_Wd_roadsFrom : MOK K_Wd_roadsFrom 1 := ⟨tb_at 611 (by decide +kernel) (by decide +kernel), tb_at 85 (by decide +kernel) (by decide +kernel), by decide +kernel, by decide +kernel, by decide +kernel⟩
theorem mok_Wd_underWayOnRoads : MOK K_Wd_underWayOnRoads 0 := ⟨tb_at 562 (by decide +kernel) (by decide +kernel), tb_at 85 (by decide +kernel) (by decide +kernel), by decide +kernel, by decide +kernel, by decide +kernel⟩
theorem mok_Wd_underWayOn : MOK K_Wd_underWayOn 1 := ⟨tb_at 566 (by decide +kernel) (by decide +kernel), tb_at 85 (by decide +kernel) (by decide +kernel), by decide +kernel, by decide +kernel, by decide +kernel⟩
theorem mok_Wd_waitingAtBoards : MOK K_Wd_waitingAtBoards 0 := ⟨tb_at 570 (by decide +kernel) (by decide +kernel), tb_at 85 (by decide +kernel) (by decide +kernel), by decide +kernel, by decide +kernel, by decide +kernel⟩
theorem mok_Wd_tornOnBoards : MOK K_Wd_tornOnBoards 0 := ⟨tb_at 574 (by decide +kernel) (by decide +kernel), tb_at 85 (by decide +kernel) (by decide +kernel), by decide +kernel, by decide +kernel, by decide +kernel⟩
theorem mok_Wd_mergedSheets : MOK K_Wd_mergedSheets 0 := ⟨tb_at 590 (by decide +kernel) (by decide +kernel), tb_at 85 (by decide +kernel) (by decide +kernel), by decide +kernel, by decide +kernel, by decide +kernel⟩
theorem mok_Wd_answer : MOK K_Wd_answer 3 := ⟨tb_at 1577 (by decide +kernel) (by decide +kernel), tb_at 85 (by decide +kernel) (by decide +kernel), by decide +kernel, by decide +kernel, by decide +kernel⟩
theorem mok_Wd_marksShown : MOK K_Wd_marksShown 2 := ⟨tb_at 1539 (by decide +kernel) (by decide +kernel), tb_at 85 (by decide +kernel) (by decide +kernel), by decide +kernel, by decide +kernel, by decide +kernel⟩
theorem mok_Wd_isFull : MOK K_Wd_isFull 0 := ⟨tb_at 1530 (by decide +kernel) (by decide +kernel), tb_at 85 (by decide +kernel) (by decide +kernel), by decide +kernel, by decide +kernel, by decide +kernel⟩
theorem mok_Wd_canNote : MOK K_Wd_canNote 2 := ⟨tb_at 1565 (by decide +kernel) (by decide +kernel), tb_at 85 (by decide +kernel) (by decide +kernel), by decide +kernel, by decide +kernel, by decide +kernel⟩
theorem mok_Wd_canMerge : MOK K_Wd_canMerge 2 := ⟨tb_at 1601 (by decide +kernel) (by decide +kernel), tb_at 85 (by decide +kernel) (by decide +kernel), by decide +kernel, by decide +kernel, by decide +kernel⟩
theorem mok_Wd_makeWritten : MOK K_Wd_makeWritten 3 := ⟨tb_at 1535 (by decide +kernel) (by decide +kernel), tb_at 85 (by decide +kernel) (by decide +kernel), by decide +kernel, by decide +kernel, by decide +kernel⟩
theorem mok_Wd_makeNoted : MOK K_Wd_makeNoted 3 := ⟨tb_at 1571 (by decide +kernel) (by decide +kernel), tb_at 85 (by decide +kernel) (by decide +kernel), by decide +kernel, by decide +kernel, by decide +kernel⟩
theorem mok_Wd_makeMerged : MOK K_Wd_makeMerged 3 := ⟨tb_at 1606 (by decide +kernel) (by decide +kernel), tb_at 85 (by decide +kernel) (by decide +kernel), by decide +kernel, by decide +kernel, by decide +kernel⟩
theorem mok_Wd_make : MOK K_Wd_make 5 := ⟨tb_at 1543 (by decide +kernel) (by decide +kernel), tb_at 85 (by decide +kernel) (by decide +kernel), by decide +kernel, by decide +kernel, by decide +kernel⟩
theorem mok_Wd_carry : MOK K_Wd_carry 1 := ⟨tb_at 1622 (by decide +kernel) (by decide +kernel), tb_at 85 (by decide +kernel) (by decide +kernel), by decide +kernel, by decide +kernel, by decide +kernel⟩
theorem mok_Wd_passDays : MOK K_Wd_passDays 1 := ⟨tb_at 1664 (by decide +kernel) (by decide +kernel), tb_at 85 (by decide +kernel) (by decide +kernel), by decide +kernel, by decide +kernel, by decide +kernel⟩
theorem mok_Wd_carriesOut : MOK K_Wd_carriesOut 1 := ⟨tb_at 1668 (by decide +kernel) (by decide +kernel), tb_at 85 (by decide +kernel) (by decide +kernel), by decide +kernel, by decide +kernel, by decide +kernel⟩
theorem mok_Wd_isNewMark : MOK K_Wd_isNewMark 3 := ⟨tb_at 1705 (by decide +kernel) (by decide +kernel), tb_at 85 (by decide +kernel) (by decide +kernel), by decide +kernel, by decide +kernel, by decide +kernel⟩
theorem mok_Wd_bringFrom : MOK K_Wd_bringFrom 1 := ⟨tb_at 1713 (by decide +kernel) (by decide +kernel), tb_at 85 (by decide +kernel) (by decide +kernel), by decide +kernel, by decide +kernel, by decide +kernel⟩
theorem mok_Wd_hangOn : MOK K_Wd_hangOn 1 := ⟨tb_at 1721 (by decide +kernel) (by decide +kernel), tb_at 85 (by decide +kernel) (by decide +kernel), by decide +kernel, by decide +kernel, by decide +kernel⟩
theorem mok_Wd_hang : MOK K_Wd_hang 2 := ⟨tb_at 1729 (by decide +kernel) (by decide +kernel), tb_at 85 (by decide +kernel) (by decide +kernel), by decide +kernel, by decide +kernel, by decide +kernel⟩
theorem mok_PB_init : MOK K_PB_init 0 := ⟨tb_at 99 (by decide +kernel) (by decide +kernel), tb_at 75 (by decide +kernel) (by decide +kernel), by decide +kernel, by decide +kernel, by decide +kernel⟩
theorem mok_PB_feed : MOK K_PB_feed 5 := ⟨tb_at 842 (by decide +kernel) (by decide +kernel), tb_at 75 (by decide +kernel) (by decide +kernel), by decide +kernel, by decide +kernel, by decide +kernel⟩
theorem mok_PB_trim : MOK K_PB_trim 1 := ⟨tb_at 774 (by decide +kernel) (by decide +kernel), tb_at 75 (by decide +kernel) (by decide +kernel), by decide +kernel, by decide +kernel, by decide +kernel⟩
theorem mok_PB_teach : MOK K_PB_teach 0 := ⟨tb_at 866 (by decide +kernel) (by decide +kernel), tb_at 75 (by decide +kernel) (by decide +kernel), by decide +kernel, by decide +kernel, by decide +kernel⟩
theorem mok_PB_count : MOK K_PB_count 1 := ⟨tb_at 483 (by decide +kernel) (by decide +kernel), tb_at 75 (by decide +kernel) (by decide +kernel), by decide +kernel, by decide +kernel, by decide +kernel⟩
theorem mok_PB_parish : MOK K_PB_parish 2 := ⟨tb_at 594 (by decide +kernel) (by decide +kernel), tb_at 75 (by decide +kernel) (by decide +kernel), by decide +kernel, by decide +kernel, by decide +kernel⟩
theorem mok_PB_knows : MOK K_PB_knows 2 := ⟨tb_at 615 (by decide +kernel) (by decide +kernel), tb_at 75 (by decide +kernel) (by decide +kernel), by decide +kernel, by decide +kernel, by decide +kernel⟩
theorem mok_PB_sheet : MOK K_PB_sheet 2 := ⟨tb_at 620 (by decide +kernel) (by decide +kernel), tb_at 75 (by decide +kernel) (by decide +kernel), by decide +kernel, by decide +kernel, by decide +kernel⟩
theorem mok_PB_stamp : MOK K_PB_stamp 2 := ⟨tb_at 650 (by decide +kernel) (by decide +kernel), tb_at 75 (by decide +kernel) (by decide +kernel), by decide +kernel, by decide +kernel, by decide +kernel⟩
theorem mok_PB_shown : MOK K_PB_shown 3 := ⟨tb_at 655 (by decide +kernel) (by decide +kernel), tb_at 75 (by decide +kernel) (by decide +kernel), by decide +kernel, by decide +kernel, by decide +kernel⟩
theorem mok_PB_compare : MOK K_PB_compare 2 := ⟨tb_at 669 (by decide +kernel) (by decide +kernel), tb_at 75 (by decide +kernel) (by decide +kernel), by decide +kernel, by decide +kernel, by decide +kernel⟩
theorem mok_PB_road : MOK K_PB_road 2 := ⟨tb_at 740 (by decide +kernel) (by decide +kernel), tb_at 75 (by decide +kernel) (by decide +kernel), by decide +kernel, by decide +kernel, by decide +kernel⟩
theorem mok_PB_write : MOK K_PB_write 3 := ⟨tb_at 1525 (by decide +kernel) (by decide +kernel), tb_at 75 (by decide +kernel) (by decide +kernel), by decide +kernel, by decide +kernel, by decide +kernel⟩
theorem mok_PB_note : MOK K_PB_note 3 := ⟨tb_at 1557 (by decide +kernel) (by decide +kernel), tb_at 75 (by decide +kernel) (by decide +kernel), by decide +kernel, by decide +kernel, by decide +kernel⟩
theorem mok_PB_merge : MOK K_PB_merge 3 := ⟨tb_at 1596 (by decide +kernel) (by decide +kernel), tb_at 75 (by decide +kernel) (by decide +kernel), by decide +kernel, by decide +kernel, by decide +kernel⟩
theorem mok_PB_send : MOK K_PB_send 1 := ⟨tb_at 1617 (by decide +kernel) (by decide +kernel), tb_at 75 (by decide +kernel) (by decide +kernel), by decide +kernel, by decide +kernel, by decide +kernel⟩
theorem mok_PB_setDays : MOK K_PB_setDays 2 := ⟨tb_at 1626 (by decide +kernel) (by decide +kernel), tb_at 75 (by decide +kernel) (by decide +kernel), by decide +kernel, by decide +kernel, by decide +kernel⟩
theorem mok_PB_pass : MOK K_PB_pass 1 := ⟨tb_at 1660 (by decide +kernel) (by decide +kernel), tb_at 75 (by decide +kernel) (by decide +kernel), by decide +kernel, by decide +kernel, by decide +kernel⟩
theorem mok_PB_alike : MOK K_PB_alike 0 := ⟨tb_at 750 (by decide +kernel) (by decide +kernel), tb_at 75 (by decide +kernel) (by decide +kernel), by decide +kernel, by decide +kernel, by decide +kernel⟩
theorem mok_PB_missed : MOK K_PB_missed 0 := ⟨tb_at 678 (by decide +kernel) (by decide +kernel), tb_at 75 (by decide +kernel) (by decide +kernel), by decide +kernel, by decide +kernel, by decide +kernel⟩
theorem mok_PB_mean : MOK K_PB_mean 0 := ⟨tb_at 683 (by decide +kernel) (by decide +kernel), tb_at 75 (by decide +kernel) (by decide +kernel), by decide +kernel, by decide +kernel, by decide +kernel⟩
theorem mok_PB_digest : MOK K_PB_digest 0 := ⟨tb_at 691 (by decide +kernel) (by decide +kernel), tb_at 75 (by decide +kernel) (by decide +kernel), by decide +kernel, by decide +kernel, by decide +kernel⟩
theorem mok_PB_append : MOK K_PB_append 1 := ⟨tb_at 862 (by decide +kernel) (by decide +kernel), tb_at 75 (by decide +kernel) (by decide +kernel), by decide +kernel, by decide +kernel, by decide +kernel⟩
theorem mok_PB_beginAnew : MOK K_PB_beginAnew 0 := ⟨tb_at 1142 (by decide +kernel) (by decide +kernel), tb_at 75 (by decide +kernel) (by decide +kernel), by decide +kernel, by decide +kernel, by decide +kernel⟩
theorem mok_PB_counted : MOK K_PB_counted 1 := ⟨tb_at 554 (by decide +kernel) (by decide +kernel), tb_at 75 (by decide +kernel) (by decide +kernel), by decide +kernel, by decide +kernel, by decide +kernel⟩
theorem mok_PB_isParish : MOK K_PB_isParish 1 := ⟨tb_at 598 (by decide +kernel) (by decide +kernel), tb_at 75 (by decide +kernel) (by decide +kernel), by decide +kernel, by decide +kernel, by decide +kernel⟩
theorem mok_PB_isBoardOf : MOK K_PB_isBoardOf 2 := ⟨tb_at 659 (by decide +kernel) (by decide +kernel), tb_at 75 (by decide +kernel) (by decide +kernel), by decide +kernel, by decide +kernel, by decide +kernel⟩
theorem mok_PB_isRoad : MOK K_PB_isRoad 1 := ⟨tb_at 744 (by decide +kernel) (by decide +kernel), tb_at 75 (by decide +kernel) (by decide +kernel), by decide +kernel, by decide +kernel, by decide +kernel⟩
theorem mok_PB_isSheet : MOK K_PB_isSheet 1 := ⟨tb_at 624 (by decide +kernel) (by decide +kernel), tb_at 75 (by decide +kernel) (by decide +kernel), by decide +kernel, by decide +kernel, by decide +kernel⟩
theorem mok_PB_isMark : MOK K_PB_isMark 1 := ⟨tb_at 1560 (by decide +kernel) (by decide +kernel), tb_at 75 (by decide +kernel) (by decide +kernel), by decide +kernel, by decide +kernel, by decide +kernel⟩
theorem mok_PB_mixed : MOK K_PB_mixed 2 := ⟨tb_at 695 (by decide +kernel) (by decide +kernel), tb_at 75 (by decide +kernel) (by decide +kernel), by decide +kernel, by decide +kernel, by decide +kernel⟩
theorem mok_PB_mixedParish : MOK K_PB_mixedParish 2 := ⟨tb_at 700 (by decide +kernel) (by decide +kernel), tb_at 75 (by decide +kernel) (by decide +kernel), by decide +kernel, by decide +kernel, by decide +kernel⟩
theorem mok_PB_mixedSheet : MOK K_PB_mixedSheet 2 := ⟨tb_at 705 (by decide +kernel) (by decide +kernel), tb_at 75 (by decide +kernel) (by decide +kernel), by decide +kernel, by decide +kernel, by decide +kernel⟩
theorem mok_SI_init : MOK K_SI_init 0 := ⟨tb_at 1178 (by decide +kernel) (by decide +kernel), tb_at 67 (by decide +kernel) (by decide +kernel), by decide +kernel, by decide +kernel, by decide +kernel⟩
theorem mok_SI_with : MOK K_SI_with 2 := ⟨tb_at 1380 (by decide +kernel) (by decide +kernel), tb_at 67 (by decide +kernel) (by decide +kernel), by decide +kernel, by decide +kernel, by decide +kernel⟩
theorem mok_SI_begin : MOK K_SI_begin 2 := ⟨tb_at 1240 (by decide +kernel) (by decide +kernel), tb_at 67 (by decide +kernel) (by decide +kernel), by decide +kernel, by decide +kernel, by decide +kernel⟩
theorem mok_SI_many : MOK K_SI_many 1 := ⟨tb_at 725 (by decide +kernel) (by decide +kernel), tb_at 67 (by decide +kernel) (by decide +kernel), by decide +kernel, by decide +kernel, by decide +kernel⟩
theorem mok_SI_of : MOK K_SI_of 2 := ⟨tb_at 733 (by decide +kernel) (by decide +kernel), tb_at 67 (by decide +kernel) (by decide +kernel), by decide +kernel, by decide +kernel, by decide +kernel⟩
theorem mok_SI_shows : MOK K_SI_shows 2 := ⟨tb_at 713 (by decide +kernel) (by decide +kernel), tb_at 67 (by decide +kernel) (by decide +kernel), by decide +kernel, by decide +kernel, by decide +kernel⟩
theorem mok_SI_marks : MOK K_SI_marks 2 := ⟨tb_at 1512 (by decide +kernel) (by decide +kernel), tb_at 67 (by decide +kernel) (by decide +kernel), by decide +kernel, by decide +kernel, by decide +kernel⟩
theorem mok_SI_make : MOK K_SI_make 5 := ⟨tb_at 1516 (by decide +kernel) (by decide +kernel), tb_at 67 (by decide +kernel) (by decide +kernel), by decide +kernel, by decide +kernel, by decide +kernel⟩
theorem mok_SI_merge : MOK K_SI_merge 3 := ⟨tb_at 1590 (by decide +kernel) (by decide +kernel), tb_at 67 (by decide +kernel) (by decide +kernel), by decide +kernel, by decide +kernel, by decide +kernel⟩
theorem mok_SI_note : MOK K_SI_note 3 := ⟨tb_at 1553 (by decide +kernel) (by decide +kernel), tb_at 67 (by decide +kernel) (by decide +kernel), by decide +kernel, by decide +kernel, by decide +kernel⟩
theorem mok_SI_write : MOK K_SI_write 3 := ⟨tb_at 1508 (by decide +kernel) (by decide +kernel), tb_at 67 (by decide +kernel) (by decide +kernel), by decide +kernel, by decide +kernel, by decide +kernel⟩
theorem mok_SI_send : MOK K_SI_send 1 := ⟨tb_at 1612 (by decide +kernel) (by decide +kernel), tb_at 67 (by decide +kernel) (by decide +kernel), by decide +kernel, by decide +kernel, by decide +kernel⟩
theorem mok_SI_canHang : MOK K_SI_canHang 2 := ⟨tb_at 1652 (by decide +kernel) (by decide +kernel), tb_at 67 (by decide +kernel) (by decide +kernel), by decide +kernel, by decide +kernel, by decide +kernel⟩
theorem mok_SI_hang : MOK K_SI_hang 2 := ⟨tb_at 1656 (by decide +kernel) (by decide +kernel), tb_at 67 (by decide +kernel) (by decide +kernel), by decide +kernel, by decide +kernel, by decide +kernel⟩
theorem mok_SI_holds : MOK K_SI_holds 1 := ⟨tb_at 1639 (by decide +kernel) (by decide +kernel), tb_at 67 (by decide +kernel) (by decide +kernel), by decide +kernel, by decide +kernel, by decide +kernel⟩
theorem mok_SI_does : MOK K_SI_does 1 := ⟨tb_at 1644 (by decide +kernel) (by decide +kernel), tb_at 67 (by decide +kernel) (by decide +kernel), by decide +kernel, by decide +kernel, by decide +kernel⟩
theorem mok_SI_pass : MOK K_SI_pass 0 := ⟨tb_at 1635 (by decide +kernel) (by decide +kernel), tb_at 67 (by decide +kernel) (by decide +kernel), by decide +kernel, by decide +kernel, by decide +kernel⟩
theorem mok_SI_pass_ : MOK K_SI_pass_ 1 := ⟨tb_at 1631 (by decide +kernel) (by decide +kernel), tb_at 67 (by decide +kernel) (by decide +kernel), by decide +kernel, by decide +kernel, by decide +kernel⟩
theorem mok_SI_allKnown : MOK K_SI_allKnown 0 := ⟨tb_at 759 (by decide +kernel) (by decide +kernel), tb_at 67 (by decide +kernel) (by decide +kernel), by decide +kernel, by decide +kernel, by decide +kernel⟩
theorem mok_SI_counted : MOK K_SI_counted 1 := ⟨tb_at 722 (by decide +kernel) (by decide +kernel), tb_at 67 (by decide +kernel) (by decide +kernel), by decide +kernel, by decide +kernel, by decide +kernel⟩
set_option maxRecDepth 100000 in
theorem mok_SI_isSame : MOK K_SI_isSame 1 := ⟨tb_at 717 rfl (by decide +kernel), tb_at 67 (by decide +kernel) (by decide +kernel), by decide +kernel, by decide +kernel, by decide +kernel⟩
theorem mok_AB_init_d00df : MOK K_AB_init_d00df 1 := ⟨tb_at 1394 (by decide +kernel) (by decide +kernel), tb_at 63 (by decide +kernel) (by decide +kernel), by decide +kernel, by decide +kernel, by decide +kernel⟩
theorem mok_AB_length_8abf5 : MOK K_AB_length_8abf5 0 := ⟨tb_at 1435 (by decide +kernel) (by decide +kernel), tb_at 63 (by decide +kernel) (by decide +kernel), by decide +kernel, by decide +kernel, by decide +kernel⟩
theorem mok_AB_ensureCapacityInternal_d00df : MOK K_AB_ensureCapacityInternal_d00df 1 := ⟨tb_at 1258 (by decide +kernel) (by decide +kernel), tb_at 63 (by decide +kernel) (by decide +kernel), by decide +kernel, by decide +kernel, by decide +kernel⟩
theorem mok_AB_newCapacity_0f7a4 : MOK K_AB_newCapacity_0f7a4 1 := ⟨tb_at 1262 (by decide +kernel) (by decide +kernel), tb_at 63 (by decide +kernel) (by decide +kernel), by decide +kernel, by decide +kernel, by decide +kernel⟩
theorem mok_AB_append_cf1ce : MOK K_AB_append_cf1ce 1 := ⟨tb_at 1250 (by decide +kernel) (by decide +kernel), tb_at 63 (by decide +kernel) (by decide +kernel), by decide +kernel, by decide +kernel, by decide +kernel⟩
theorem mok_AB_append_c97b9 : MOK K_AB_append_c97b9 1 := ⟨tb_at 1357 (by decide +kernel) (by decide +kernel), tb_at 63 (by decide +kernel) (by decide +kernel), by decide +kernel, by decide +kernel, by decide +kernel⟩
theorem mok_AB_getValue_6d5f1 : MOK K_AB_getValue_6d5f1 0 := ⟨tb_at 1427 (by decide +kernel) (by decide +kernel), tb_at 63 (by decide +kernel) (by decide +kernel), by decide +kernel, by decide +kernel, by decide +kernel⟩
theorem mok_AB_isLatin1_aae02 : MOK K_AB_isLatin1_aae02 0 := ⟨tb_at 1292 (by decide +kernel) (by decide +kernel), tb_at 63 (by decide +kernel) (by decide +kernel), by decide +kernel, by decide +kernel, by decide +kernel⟩
theorem mok_AB_inflateIfNeededFor_a7421 : MOK K_AB_inflateIfNeededFor_a7421 1 := ⟨tb_at 1317 (by decide +kernel) (by decide +kernel), tb_at 63 (by decide +kernel) (by decide +kernel), by decide +kernel, by decide +kernel, by decide +kernel⟩
theorem mok_AB_putStringAt_47b60 : MOK K_AB_putStringAt_47b60 2 := ⟨tb_at 1313 (by decide +kernel) (by decide +kernel), tb_at 63 (by decide +kernel) (by decide +kernel), by decide +kernel, by decide +kernel, by decide +kernel⟩
theorem mok_En_ordinal_8abf5 : MOK K_En_ordinal_8abf5 0 := ⟨tb_at 950 (by decide +kernel) (by decide +kernel), tb_at 80 (by decide +kernel) (by decide +kernel), by decide +kernel, by decide +kernel, by decide +kernel⟩
theorem mok_JI_getChars_ba4f3 : MOK K_JI_getChars_ba4f3 3 := ⟨tb_at 1363 (by decide +kernel) (by decide +kernel), tb_at 74 (by decide +kernel) (by decide +kernel), by decide +kernel, by decide +kernel, by decide +kernel⟩
theorem mok_JI_stringSize_0f7a4 : MOK K_JI_stringSize_0f7a4 1 := ⟨tb_at 1360 (by decide +kernel) (by decide +kernel), tb_at 74 (by decide +kernel) (by decide +kernel), by decide +kernel, by decide +kernel, by decide +kernel⟩
theorem mok_JI_bitCount_0f7a4 : MOK K_JI_bitCount_0f7a4 1 := ⟨tb_at 1583 (by decide +kernel) (by decide +kernel), tb_at 74 (by decide +kernel) (by decide +kernel), by decide +kernel, by decide +kernel, by decide +kernel⟩
theorem mok_JM_max_7cf53 : MOK K_JM_max_7cf53 2 := ⟨tb_at 1268 (by decide +kernel) (by decide +kernel), tb_at 69 (by decide +kernel) (by decide +kernel), by decide +kernel, by decide +kernel, by decide +kernel⟩
theorem mok_JM_min_7cf53 : MOK K_JM_min_7cf53 2 := ⟨tb_at 1286 (by decide +kernel) (by decide +kernel), tb_at 69 (by decide +kernel) (by decide +kernel), by decide +kernel, by decide +kernel, by decide +kernel⟩
theorem mok_Str_init_81219 : MOK K_Str_init_81219 1 := ⟨tb_at 1418 (by decide +kernel) (by decide +kernel), tb_at 65 (by decide +kernel) (by decide +kernel), by decide +kernel, by decide +kernel, by decide +kernel⟩
theorem mok_Str_length_8abf5 : MOK K_Str_length_8abf5 0 := ⟨tb_at 794 (by decide +kernel) (by decide +kernel), tb_at 65 (by decide +kernel) (by decide +kernel), by decide +kernel, by decide +kernel, by decide +kernel⟩
theorem mok_Str_charAt_5068e : MOK K_Str_charAt_5068e 1 := ⟨tb_at 804 (by decide +kernel) (by decide +kernel), tb_at 65 (by decide +kernel) (by decide +kernel), by decide +kernel, by decide +kernel, by decide +kernel⟩
theorem mok_Str_getBytes_840e7 : MOK K_Str_getBytes_840e7 3 := ⟨tb_at 1348 (by decide +kernel) (by decide +kernel), tb_at 65 (by decide +kernel) (by decide +kernel), by decide +kernel, by decide +kernel, by decide +kernel⟩
theorem mok_Str_init_db425 : MOK K_Str_init_db425 2 := ⟨tb_at 1421 (by decide +kernel) (by decide +kernel), tb_at 65 (by decide +kernel) (by decide +kernel), by decide +kernel, by decide +kernel, by decide +kernel⟩
theorem mok_Str_coder_7d493 : MOK K_Str_coder_7d493 0 := ⟨tb_at 798 (by decide +kernel) (by decide +kernel), tb_at 65 (by decide +kernel) (by decide +kernel), by decide +kernel, by decide +kernel, by decide +kernel⟩
theorem mok_Str_isLatin1_aae02 : MOK K_Str_isLatin1_aae02 0 := ⟨tb_at 808 (by decide +kernel) (by decide +kernel), tb_at 65 (by decide +kernel) (by decide +kernel), by decide +kernel, by decide +kernel, by decide +kernel⟩
theorem mok_Str_checkIndex_df160 : MOK K_Str_checkIndex_df160 2 := ⟨tb_at 814 (by decide +kernel) (by decide +kernel), tb_at 65 (by decide +kernel) (by decide +kernel), by decide +kernel, by decide +kernel, by decide +kernel⟩
theorem mok_SB_init_da8c8 : MOK K_SB_init_da8c8 0 := ⟨tb_at 1391 (by decide +kernel) (by decide +kernel), tb_at 64 (by decide +kernel) (by decide +kernel), by decide +kernel, by decide +kernel, by decide +kernel⟩
theorem mok_SB_append_15ec4 : MOK K_SB_append_15ec4 1 := ⟨tb_at 1246 (by decide +kernel) (by decide +kernel), tb_at 64 (by decide +kernel) (by decide +kernel), by decide +kernel, by decide +kernel, by decide +kernel⟩
theorem mok_SB_append_bf812 : MOK K_SB_append_bf812 1 := ⟨tb_at 1354 (by decide +kernel) (by decide +kernel), tb_at 64 (by decide +kernel) (by decide +kernel), by decide +kernel, by decide +kernel, by decide +kernel⟩
theorem mok_SB_toString_0e30d : MOK K_SB_toString_0e30d 0 := ⟨tb_at 1413 (by decide +kernel) (by decide +kernel), tb_at 64 (by decide +kernel) (by decide +kernel), by decide +kernel, by decide +kernel, by decide +kernel⟩
theorem mok_SB_length_8abf5 : MOK K_SB_length_8abf5 0 := ⟨tb_at 1433 (by decide +kernel) (by decide +kernel), tb_at 64 (by decide +kernel) (by decide +kernel), by decide +kernel, by decide +kernel, by decide +kernel⟩
theorem mok_SL_charAt_3b067 : MOK K_SL_charAt_3b067 2 := ⟨tb_at 811 (by decide +kernel) (by decide +kernel), tb_at 73 (by decide +kernel) (by decide +kernel), by decide +kernel, by decide +kernel, by decide +kernel⟩
theorem mok_Ars_copyOf_9075b : MOK K_Ars_copyOf_9075b 2 := ⟨tb_at 1276 (by decide +kernel) (by decide +kernel), tb_at 70 (by decide +kernel) (by decide +kernel), by decide +kernel, by decide +kernel, by decide +kernel⟩
theorem mok_Ars_checkLength_df160 : MOK K_Ars_checkLength_df160 2 := ⟨tb_at 1445 (by decide +kernel) (by decide +kernel), tb_at 70 (by decide +kernel) (by decide +kernel), by decide +kernel, by decide +kernel, by decide +kernel⟩
theorem mok_Ars_copyOfRange_39247 : MOK K_Ars_copyOfRange_39247 3 := ⟨tb_at 1439 (by decide +kernel) (by decide +kernel), tb_at 70 (by decide +kernel) (by decide +kernel), by decide +kernel, by decide +kernel, by decide +kernel⟩
theorem mok_Ars_copyOfRangeByte_39247 : MOK K_Ars_copyOfRangeByte_39247 3 := ⟨tb_at 1442 (by decide +kernel) (by decide +kernel), tb_at 70 (by decide +kernel) (by decide +kernel), by decide +kernel, by decide +kernel, by decide +kernel⟩
theorem mok_Asu_newLength_cabcc : MOK K_Asu_newLength_cabcc 3 := ⟨tb_at 1265 (by decide +kernel) (by decide +kernel), tb_at 68 (by decide +kernel) (by decide +kernel), by decide +kernel, by decide +kernel, by decide +kernel⟩
theorem mok_Pre_checkIndex_8e157 : MOK K_Pre_checkIndex_8e157 3 := ⟨tb_at 819 (by decide +kernel) (by decide +kernel), tb_at 72 (by decide +kernel) (by decide +kernel), by decide +kernel, by decide +kernel, by decide +kernel⟩
theorem mok_LW_below : MOK K_LW_below 2 := ⟨tb_at 762 (by decide +kernel) (by decide +kernel), tb_at 62 (by decide +kernel) (by decide +kernel), by decide +kernel, by decide +kernel, by decide +kernel⟩
theorem mok_LW_cell : MOK K_LW_cell 2 := ⟨tb_at 766 (by decide +kernel) (by decide +kernel), tb_at 62 (by decide +kernel) (by decide +kernel), by decide +kernel, by decide +kernel, by decide +kernel⟩
theorem mok_LW_taught : MOK K_LW_taught 2 := ⟨tb_at 770 (by decide +kernel) (by decide +kernel), tb_at 62 (by decide +kernel) (by decide +kernel), by decide +kernel, by decide +kernel, by decide +kernel⟩
theorem mok_LW_test : MOK K_LW_test 1 := ⟨tb_at 1488 (by decide +kernel) (by decide +kernel), tb_at 62 (by decide +kernel) (by decide +kernel), by decide +kernel, by decide +kernel, by decide +kernel⟩
theorem mok_LW_sum : MOK K_LW_sum 1 := ⟨tb_at 1479 (by decide +kernel) (by decide +kernel), tb_at 62 (by decide +kernel) (by decide +kernel), by decide +kernel, by decide +kernel, by decide +kernel⟩
set_option maxRecDepth 100000 in
theorem mok_LW_list : MOK K_LW_list 2 := ⟨tb_at 1173 rfl (by decide +kernel), tb_at 62 (by decide +kernel) (by decide +kernel), by decide +kernel, by decide +kernel, by decide +kernel⟩
theorem fl_PB_9 : FLinkO "ParishBoards" 9 (T_PB 0) := Or.inl (tb_at 449 (by decide +kernel) (by decide +kernel))
theorem fl_PB_13 : FLinkO "ParishBoards" 13 (T_PB 1) := Or.inl (tb_at 450 (by decide +kernel) (by decide +kernel))
theorem fl_PB_17 : FLinkO "ParishBoards" 17 (T_PB 2) := Or.inl (tb_at 451 (by decide +kernel) (by decide +kernel))
theorem fl_PB_23 : FLinkO "ParishBoards" 23 (T_PB 3) := Or.inl (tb_at 452 (by decide +kernel) (by decide +kernel))
theorem fl_PB_27 : FLinkO "ParishBoards" 27 (T_PB 4) := Or.inl (tb_at 453 (by decide +kernel) (by decide +kernel))
theorem fl_PB_33 : FLinkO "ParishBoards" 33 (T_PB 5) := Or.inl (tb_at 454 (by decide +kernel) (by decide +kernel))
theorem fl_PB_42 : FLinkO "ParishBoards" 42 (T_PB 6) := Or.inl (tb_at 455 (by decide +kernel) (by decide +kernel))
theorem fl_PB_49 : FLinkO "ParishBoards" 49 (T_PB 7) := Or.inl (tb_at 456 (by decide +kernel) (by decide +kernel))
theorem fl_PB_58 : FLinkO "ParishBoards" 58 (T_PB 8) := Or.inl (tb_at 457 (by decide +kernel) (by decide +kernel))
theorem fl_PB_62 : FLinkO "ParishBoards" 62 (T_PB 9) := Or.inl (tb_at 458 (by decide +kernel) (by decide +kernel))
theorem fl_PB_99 : FLinkO "ParishBoards" 99 (T_Nm 7) := Or.inr ⟨"ParishBoards", tb_at 325 (by decide +kernel) (by decide +kernel)⟩
theorem fl_PB_125 : FLinkO "ParishBoards" 125 (T_Wd 1) := Or.inr ⟨"ParishBoards", tb_at 422 (by decide +kernel) (by decide +kernel)⟩
theorem fl_PB_129 : FLinkO "ParishBoards" 129 (T_Bd 0) := Or.inr ⟨"ParishBoards", tb_at 402 (by decide +kernel) (by decide +kernel)⟩
theorem fl_PB_145 : FLinkO "ParishBoards" 145 (T_Wd 0) := Or.inr ⟨"ParishBoards", tb_at 420 (by decide +kernel) (by decide +kernel)⟩
theorem fl_PB_149 : FLinkO "ParishBoards" 149 (T_Sh 0) := Or.inr ⟨"ParishBoards", tb_at 361 (by decide +kernel) (by decide +kernel)⟩
theorem fl_PB_221 : FLinkO "ParishBoards" 221 (T_Wd 2) := Or.inr ⟨"ParishBoards", tb_at 424 (by decide +kernel) (by decide +kernel)⟩
theorem fl_PB_225 : FLinkO "ParishBoards" 225 (T_Rd 3) := Or.inr ⟨"ParishBoards", tb_at 157 (by decide +kernel) (by decide +kernel)⟩
theorem fl_PB_230 : FLinkO "ParishBoards" 230 (T_Wd 6) := Or.inr ⟨"ParishBoards", tb_at 430 (by decide +kernel) (by decide +kernel)⟩
theorem fl_PB_250 : FLinkO "ParishBoards" 250 (T_Pl 3) := Or.inr ⟨"ParishBoards", tb_at 231 (by decide +kernel) (by decide +kernel)⟩
theorem fl_PB_257 : FLinkO "ParishBoards" 257 (T_Wd 5) := Or.inr ⟨"ParishBoards", tb_at 428 (by decide +kernel) (by decide +kernel)⟩
theorem fl_PB_263 : FLinkO "ParishBoards" 263 (T_Pl 5) := Or.inr ⟨"ParishBoards", tb_at 239 (by decide +kernel) (by decide +kernel)⟩
theorem fl_PB_289 : FLinkO "ParishBoards" 289 (T_Pl 4) := Or.inr ⟨"ParishBoards", tb_at 235 (by decide +kernel) (by decide +kernel)⟩
theorem fl_Bd_9 : FLinkO "ParishBoards$Board" 9 (T_Bd 0) := Or.inl (tb_at 400 (by decide +kernel) (by decide +kernel))
theorem fl_Bd_15 : FLinkO "ParishBoards$Board" 15 (T_Bd 1) := Or.inl (tb_at 403 (by decide +kernel) (by decide +kernel))
theorem fl_Bd_18 : FLinkO "ParishBoards$Board" 18 (T_Bd 2) := Or.inl (tb_at 404 (by decide +kernel) (by decide +kernel))
theorem fl_Bd_22 : FLinkO "ParishBoards$Board" 22 (T_Bd 3) := Or.inl (tb_at 406 (by decide +kernel) (by decide +kernel))
theorem fl_Bd_35 : FLinkO "ParishBoards$Board" 35 (T_Sh 1) := Or.inr ⟨"ParishBoards", tb_at 364 (by decide +kernel) (by decide +kernel)⟩
theorem fl_Bd_40 : FLinkO "ParishBoards$Board" 40 (T_Sh 0) := Or.inr ⟨"ParishBoards", tb_at 360 (by decide +kernel) (by decide +kernel)⟩
theorem fl_Cd_11 : FLinkO "ParishBoards$Code" 11 (T_Cd 0) := Or.inl (tb_at 117 (by decide +kernel) (by decide +kernel))
theorem fl_Cd_17 : FLinkO "ParishBoards$Code" 17 (T_Cd 1) := Or.inl (tb_at 118 (by decide +kernel) (by decide +kernel))
theorem fl_Cd_21 : FLinkO "ParishBoards$Code" 21 (T_Cd 2) := Or.inl (tb_at 119 (by decide +kernel) (by decide +kernel))
theorem fl_Cd_24 : FLinkO "ParishBoards$Code" 24 (T_Cd 3) := Or.inl (tb_at 120 (by decide +kernel) (by decide +kernel))
theorem fl_Cd_27 : FLinkO "ParishBoards$Code" 27 (T_Cd 4) := Or.inl (tb_at 121 (by decide +kernel) (by decide +kernel))
theorem fl_Cd_31 : FLinkO "ParishBoards$Code" 31 (T_Cd 5) := Or.inl (tb_at 124 (by decide +kernel) (by decide +kernel))
theorem fl_Gr_9 : FLinkO "ParishBoards$Grammar" 9 (T_Gr 2) := Or.inl (tb_at 300 (by decide +kernel) (by decide +kernel))
theorem fl_Gr_21 : FLinkO "ParishBoards$Grammar" 21 (T_Gr 3) := Or.inl (tb_at 301 (by decide +kernel) (by decide +kernel))
theorem fl_Gr_24 : FLinkO "ParishBoards$Grammar" 24 (T_Gr 0) := Or.inl (tb_at 298 (by decide +kernel) (by decide +kernel))
theorem fl_Gr_28 : FLinkO "ParishBoards$Grammar" 28 (T_Gr 1) := Or.inl (tb_at 299 (by decide +kernel) (by decide +kernel))
theorem fl_Gr_92 : FLinkO "ParishBoards$Grammar" 92 (T_Od 0) := Or.inr ⟨"ParishBoards", tb_at 179 (by decide +kernel) (by decide +kernel)⟩
theorem fl_Gr_97 : FLinkO "ParishBoards$Grammar" 97 (T_Od 1) := Or.inr ⟨"ParishBoards", tb_at 182 (by decide +kernel) (by decide +kernel)⟩
theorem fl_Gr_100 : FLinkO "ParishBoards$Grammar" 100 (T_Pl 0) := Or.inr ⟨"ParishBoards", tb_at 221 (by decide +kernel) (by decide +kernel)⟩
theorem fl_Gr_104 : FLinkO "ParishBoards$Grammar" 104 (T_Cd 4) := Or.inr ⟨"ParishBoards", tb_at 123 (by decide +kernel) (by decide +kernel)⟩
theorem fl_Gr_109 : FLinkO "ParishBoards$Grammar" 109 (T_Od 6) := Or.inr ⟨"ParishBoards", tb_at 193 (by decide +kernel) (by decide +kernel)⟩
theorem fl_Gr_140 : FLinkO "ParishBoards$Grammar" 140 (T_Od 5) := Or.inr ⟨"ParishBoards", tb_at 190 (by decide +kernel) (by decide +kernel)⟩
theorem fl_Gr_143 : FLinkO "ParishBoards$Grammar" 143 (T_Od 7) := Or.inr ⟨"ParishBoards", tb_at 196 (by decide +kernel) (by decide +kernel)⟩
theorem fl_Gr_152 : FLinkO "ParishBoards$Grammar" 152 (T_Od 8) := Or.inr ⟨"ParishBoards", tb_at 199 (by decide +kernel) (by decide +kernel)⟩
theorem fl_Gr_235 : FLinkO "ParishBoards$Grammar" 235 (T_Tk 4) := Or.inr ⟨"ParishBoards", tb_at 271 (by decide +kernel) (by decide +kernel)⟩
theorem fl_Gr_236 : FLinkO "ParishBoards$Grammar" 236 (T_Tk 0) := Or.inr ⟨"ParishBoards", tb_at 265 (by decide +kernel) (by decide +kernel)⟩
theorem fl_Nm_9 : FLinkO "ParishBoards$Names" 9 (T_Nm 0) := Or.inl (tb_at 317 (by decide +kernel) (by decide +kernel))
theorem fl_Nm_15 : FLinkO "ParishBoards$Names" 15 (T_Nm 1) := Or.inl (tb_at 318 (by decide +kernel) (by decide +kernel))
theorem fl_Nm_18 : FLinkO "ParishBoards$Names" 18 (T_Nm 2) := Or.inl (tb_at 319 (by decide +kernel) (by decide +kernel))
theorem fl_Nm_21 : FLinkO "ParishBoards$Names" 21 (T_Nm 5) := Or.inl (tb_at 322 (by decide +kernel) (by decide +kernel))
theorem fl_Nm_25 : FLinkO "ParishBoards$Names" 25 (T_Nm 6) := Or.inl (tb_at 323 (by decide +kernel) (by decide +kernel))
theorem fl_Nm_28 : FLinkO "ParishBoards$Names" 28 (T_Nm 7) := Or.inl (tb_at 324 (by decide +kernel) (by decide +kernel))
theorem fl_Nm_31 : FLinkO "ParishBoards$Names" 31 (T_Nm 3) := Or.inl (tb_at 320 (by decide +kernel) (by decide +kernel))
theorem fl_Nm_35 : FLinkO "ParishBoards$Names" 35 (T_Nm 4) := Or.inl (tb_at 321 (by decide +kernel) (by decide +kernel))
theorem fl_Nm_39 : FLinkO "ParishBoards$Names" 39 (T_Tk 4) := Or.inr ⟨"ParishBoards", tb_at 270 (by decide +kernel) (by decide +kernel)⟩
theorem fl_Nm_64 : FLinkO "ParishBoards$Names" 64 (T_Pl 3) := Or.inr ⟨"ParishBoards", tb_at 229 (by decide +kernel) (by decide +kernel)⟩
theorem fl_Nm_72 : FLinkO "ParishBoards$Names" 72 (T_Pl 4) := Or.inr ⟨"ParishBoards", tb_at 233 (by decide +kernel) (by decide +kernel)⟩
theorem fl_Nm_74 : FLinkO "ParishBoards$Names" 74 (T_Pl 5) := Or.inr ⟨"ParishBoards", tb_at 238 (by decide +kernel) (by decide +kernel)⟩
theorem fl_Nm_114 : FLinkO "ParishBoards$Names" 114 (T_Pl 1) := Or.inr ⟨"ParishBoards", tb_at 225 (by decide +kernel) (by decide +kernel)⟩
theorem fl_Od_15 : FLinkO "ParishBoards$Order" 15 (T_Od 0) := Or.inl (tb_at 178 (by decide +kernel) (by decide +kernel))
theorem fl_Od_20 : FLinkO "ParishBoards$Order" 20 (T_Od 1) := Or.inl (tb_at 181 (by decide +kernel) (by decide +kernel))
theorem fl_Od_24 : FLinkO "ParishBoards$Order" 24 (T_Od 2) := Or.inl (tb_at 183 (by decide +kernel) (by decide +kernel))
theorem fl_Od_27 : FLinkO "ParishBoards$Order" 27 (T_Od 3) := Or.inl (tb_at 185 (by decide +kernel) (by decide +kernel))
theorem fl_Od_30 : FLinkO "ParishBoards$Order" 30 (T_Od 4) := Or.inl (tb_at 187 (by decide +kernel) (by decide +kernel))
theorem fl_Od_33 : FLinkO "ParishBoards$Order" 33 (T_Od 5) := Or.inl (tb_at 189 (by decide +kernel) (by decide +kernel))
theorem fl_Od_36 : FLinkO "ParishBoards$Order" 36 (T_Od 6) := Or.inl (tb_at 192 (by decide +kernel) (by decide +kernel))
theorem fl_Od_39 : FLinkO "ParishBoards$Order" 39 (T_Od 7) := Or.inl (tb_at 195 (by decide +kernel) (by decide +kernel))
theorem fl_Od_42 : FLinkO "ParishBoards$Order" 42 (T_Od 8) := Or.inl (tb_at 198 (by decide +kernel) (by decide +kernel))
theorem fl_Pl_12 : FLinkO "ParishBoards$Plan" 12 (T_Pl 0) := Or.inl (tb_at 220 (by decide +kernel) (by decide +kernel))
theorem fl_Pl_20 : FLinkO "ParishBoards$Plan" 20 (T_Pl 1) := Or.inl (tb_at 223 (by decide +kernel) (by decide +kernel))
theorem fl_Pl_26 : FLinkO "ParishBoards$Plan" 26 (T_Pl 2) := Or.inl (tb_at 226 (by decide +kernel) (by decide +kernel))
theorem fl_Pl_30 : FLinkO "ParishBoards$Plan" 30 (T_Pl 3) := Or.inl (tb_at 228 (by decide +kernel) (by decide +kernel))
theorem fl_Pl_34 : FLinkO "ParishBoards$Plan" 34 (T_Pl 4) := Or.inl (tb_at 232 (by decide +kernel) (by decide +kernel))
theorem fl_Pl_37 : FLinkO "ParishBoards$Plan" 37 (T_Pl 5) := Or.inl (tb_at 236 (by decide +kernel) (by decide +kernel))
theorem fl_Pl_40 : FLinkO "ParishBoards$Plan" 40 (T_Pl 6) := Or.inl (tb_at 240 (by decide +kernel) (by decide +kernel))
theorem fl_Pl_45 : FLinkO "ParishBoards$Plan" 45 (T_Cd 4) := Or.inr ⟨"ParishBoards", tb_at 122 (by decide +kernel) (by decide +kernel)⟩
theorem fl_Rd_9 : FLinkO "ParishBoards$Road" 9 (T_Rd 0) := Or.inl (tb_at 149 (by decide +kernel) (by decide +kernel))
theorem fl_Rd_15 : FLinkO "ParishBoards$Road" 15 (T_Rd 1) := Or.inl (tb_at 151 (by decide +kernel) (by decide +kernel))
theorem fl_Rd_19 : FLinkO "ParishBoards$Road" 19 (T_Rd 2) := Or.inl (tb_at 153 (by decide +kernel) (by decide +kernel))
theorem fl_Rd_22 : FLinkO "ParishBoards$Road" 22 (T_Rd 3) := Or.inl (tb_at 155 (by decide +kernel) (by decide +kernel))
theorem fl_Rd_25 : FLinkO "ParishBoards$Road" 25 (T_Rd 4) := Or.inl (tb_at 158 (by decide +kernel) (by decide +kernel))
theorem fl_Sh_9 : FLinkO "ParishBoards$Sheet" 9 (T_Sh 0) := Or.inl (tb_at 359 (by decide +kernel) (by decide +kernel))
theorem fl_Sh_15 : FLinkO "ParishBoards$Sheet" 15 (T_Sh 1) := Or.inl (tb_at 363 (by decide +kernel) (by decide +kernel))
theorem fl_Sh_19 : FLinkO "ParishBoards$Sheet" 19 (T_Sh 2) := Or.inl (tb_at 366 (by decide +kernel) (by decide +kernel))
theorem fl_Sh_22 : FLinkO "ParishBoards$Sheet" 22 (T_Sh 3) := Or.inl (tb_at 368 (by decide +kernel) (by decide +kernel))
theorem fl_Sh_25 : FLinkO "ParishBoards$Sheet" 25 (T_Sh 4) := Or.inl (tb_at 370 (by decide +kernel) (by decide +kernel))
theorem fl_Sh_28 : FLinkO "ParishBoards$Sheet" 28 (T_Sh 5) := Or.inl (tb_at 372 (by decide +kernel) (by decide +kernel))
theorem fl_Sh_31 : FLinkO "ParishBoards$Sheet" 31 (T_Sh 6) := Or.inl (tb_at 374 (by decide +kernel) (by decide +kernel))
theorem fl_Tk_11 : FLinkO "ParishBoards$Tokens" 11 (T_Tk 0) := Or.inl (tb_at 264 (by decide +kernel) (by decide +kernel))
theorem fl_Tk_17 : FLinkO "ParishBoards$Tokens" 17 (T_Tk 1) := Or.inl (tb_at 266 (by decide +kernel) (by decide +kernel))
theorem fl_Tk_21 : FLinkO "ParishBoards$Tokens" 21 (T_Tk 2) := Or.inl (tb_at 267 (by decide +kernel) (by decide +kernel))
theorem fl_Tk_25 : FLinkO "ParishBoards$Tokens" 25 (T_Tk 3) := Or.inl (tb_at 268 (by decide +kernel) (by decide +kernel))
theorem fl_Tk_28 : FLinkO "ParishBoards$Tokens" 28 (T_Tk 4) := Or.inl (tb_at 269 (by decide +kernel) (by decide +kernel))
theorem fl_Tk_32 : FLinkO "ParishBoards$Tokens" 32 (T_Tk 5) := Or.inl (tb_at 272 (by decide +kernel) (by decide +kernel))
theorem fl_Tk_36 : FLinkO "ParishBoards$Tokens" 36 (T_Tk 6) := Or.inl (tb_at 273 (by decide +kernel) (by decide +kernel))
theorem fl_Tk_85 : FLinkO "ParishBoards$Tokens" 85 (T_Ki 1) := Or.inl (tb_at 1745 (by decide +kernel) (by decide +kernel))
theorem fl_Wd_11 : FLinkO "ParishBoards$World" 11 (T_Wd 0) := Or.inl (tb_at 419 (by decide +kernel) (by decide +kernel))
theorem fl_Wd_19 : FLinkO "ParishBoards$World" 19 (T_Wd 1) := Or.inl (tb_at 421 (by decide +kernel) (by decide +kernel))
theorem fl_Wd_25 : FLinkO "ParishBoards$World" 25 (T_Wd 2) := Or.inl (tb_at 423 (by decide +kernel) (by decide +kernel))
theorem fl_Wd_29 : FLinkO "ParishBoards$World" 29 (T_Wd 4) := Or.inl (tb_at 426 (by decide +kernel) (by decide +kernel))
theorem fl_Wd_33 : FLinkO "ParishBoards$World" 33 (T_Wd 5) := Or.inl (tb_at 427 (by decide +kernel) (by decide +kernel))
theorem fl_Wd_36 : FLinkO "ParishBoards$World" 36 (T_Wd 6) := Or.inl (tb_at 429 (by decide +kernel) (by decide +kernel))
theorem fl_Wd_39 : FLinkO "ParishBoards$World" 39 (T_Wd 7) := Or.inl (tb_at 431 (by decide +kernel) (by decide +kernel))
theorem fl_Wd_42 : FLinkO "ParishBoards$World" 42 (T_Wd 3) := Or.inl (tb_at 425 (by decide +kernel) (by decide +kernel))
theorem fl_Wd_52 : FLinkO "ParishBoards$World" 52 (T_Pl 5) := Or.inr ⟨"ParishBoards", tb_at 237 (by decide +kernel) (by decide +kernel)⟩
theorem fl_Wd_57 : FLinkO "ParishBoards$World" 57 (T_Pl 1) := Or.inr ⟨"ParishBoards", tb_at 224 (by decide +kernel) (by decide +kernel)⟩
theorem fl_Wd_65 : FLinkO "ParishBoards$World" 65 (T_Pl 3) := Or.inr ⟨"ParishBoards", tb_at 230 (by decide +kernel) (by decide +kernel)⟩
theorem fl_Wd_71 : FLinkO "ParishBoards$World" 71 (T_Pl 4) := Or.inr ⟨"ParishBoards", tb_at 234 (by decide +kernel) (by decide +kernel)⟩
theorem fl_Wd_74 : FLinkO "ParishBoards$World" 74 (T_Pl 6) := Or.inr ⟨"ParishBoards", tb_at 241 (by decide +kernel) (by decide +kernel)⟩
theorem fl_Wd_93 : FLinkO "ParishBoards$World" 93 (T_Bd 3) := Or.inr ⟨"ParishBoards", tb_at 407 (by decide +kernel) (by decide +kernel)⟩
theorem fl_Wd_100 : FLinkO "ParishBoards$World" 100 (T_Bd 0) := Or.inr ⟨"ParishBoards", tb_at 401 (by decide +kernel) (by decide +kernel)⟩
theorem fl_Wd_107 : FLinkO "ParishBoards$World" 107 (T_Sh 1) := Or.inr ⟨"ParishBoards", tb_at 365 (by decide +kernel) (by decide +kernel)⟩
theorem fl_Wd_110 : FLinkO "ParishBoards$World" 110 (T_Sh 2) := Or.inr ⟨"ParishBoards", tb_at 367 (by decide +kernel) (by decide +kernel)⟩
theorem fl_Wd_113 : FLinkO "ParishBoards$World" 113 (T_Sh 3) := Or.inr ⟨"ParishBoards", tb_at 369 (by decide +kernel) (by decide +kernel)⟩
theorem fl_Wd_116 : FLinkO "ParishBoards$World" 116 (T_Sh 4) := Or.inr ⟨"ParishBoards", tb_at 371 (by decide +kernel) (by decide +kernel)⟩
theorem fl_Wd_119 : FLinkO "ParishBoards$World" 119 (T_Sh 5) := Or.inr ⟨"ParishBoards", tb_at 373 (by decide +kernel) (by decide +kernel)⟩
theorem fl_Wd_120 : FLinkO "ParishBoards$World" 120 (T_Sh 6) := Or.inr ⟨"ParishBoards", tb_at 375 (by decide +kernel) (by decide +kernel)⟩
theorem fl_Wd_129 : FLinkO "ParishBoards$World" 129 (T_Rd 1) := Or.inr ⟨"ParishBoards", tb_at 152 (by decide +kernel) (by decide +kernel)⟩
theorem fl_Wd_132 : FLinkO "ParishBoards$World" 132 (T_Rd 2) := Or.inr ⟨"ParishBoards", tb_at 154 (by decide +kernel) (by decide +kernel)⟩
theorem fl_Wd_135 : FLinkO "ParishBoards$World" 135 (T_Rd 3) := Or.inr ⟨"ParishBoards", tb_at 156 (by decide +kernel) (by decide +kernel)⟩
theorem fl_Wd_142 : FLinkO "ParishBoards$World" 142 (T_Rd 4) := Or.inr ⟨"ParishBoards", tb_at 159 (by decide +kernel) (by decide +kernel)⟩
theorem fl_Wd_157 : FLinkO "ParishBoards$World" 157 (T_Rd 0) := Or.inr ⟨"ParishBoards", tb_at 150 (by decide +kernel) (by decide +kernel)⟩
theorem fl_Wd_209 : FLinkO "ParishBoards$World" 209 (T_Sh 0) := Or.inr ⟨"ParishBoards", tb_at 362 (by decide +kernel) (by decide +kernel)⟩
theorem fl_Wd_222 : FLinkO "ParishBoards$World" 222 (T_Pl 2) := Or.inr ⟨"ParishBoards", tb_at 227 (by decide +kernel) (by decide +kernel)⟩
theorem fl_Wd_241 : FLinkO "ParishBoards$World" 241 (T_Pl 0) := Or.inr ⟨"ParishBoards", tb_at 222 (by decide +kernel) (by decide +kernel)⟩
theorem fl_Wd_245 : FLinkO "ParishBoards$World" 245 (T_Od 7) := Or.inr ⟨"ParishBoards", tb_at 197 (by decide +kernel) (by decide +kernel)⟩
theorem fl_Wd_248 : FLinkO "ParishBoards$World" 248 (T_Od 8) := Or.inr ⟨"ParishBoards", tb_at 200 (by decide +kernel) (by decide +kernel)⟩
theorem fl_Wd_257 : FLinkO "ParishBoards$World" 257 (T_Od 0) := Or.inr ⟨"ParishBoards", tb_at 180 (by decide +kernel) (by decide +kernel)⟩
theorem fl_Wd_263 : FLinkO "ParishBoards$World" 263 (T_Od 4) := Or.inr ⟨"ParishBoards", tb_at 188 (by decide +kernel) (by decide +kernel)⟩
theorem fl_Wd_272 : FLinkO "ParishBoards$World" 272 (T_Od 2) := Or.inr ⟨"ParishBoards", tb_at 184 (by decide +kernel) (by decide +kernel)⟩
theorem fl_Wd_273 : FLinkO "ParishBoards$World" 273 (T_Od 3) := Or.inr ⟨"ParishBoards", tb_at 186 (by decide +kernel) (by decide +kernel)⟩
theorem fl_Wd_277 : FLinkO "ParishBoards$World" 277 (T_Od 5) := Or.inr ⟨"ParishBoards", tb_at 191 (by decide +kernel) (by decide +kernel)⟩
theorem fl_Wd_284 : FLinkO "ParishBoards$World" 284 (T_Od 6) := Or.inr ⟨"ParishBoards", tb_at 194 (by decide +kernel) (by decide +kernel)⟩
theorem fl_Wd_311 : FLinkO "ParishBoards$World" 311 (T_Bd 2) := Or.inr ⟨"ParishBoards", tb_at 405 (by decide +kernel) (by decide +kernel)⟩
theorem fl_LW_103 : FLinkO "ParishBoardsLaw" 103 (T_SI 11) := Or.inl (tb_at 1200 (by decide +kernel) (by decide +kernel))
theorem fl_LW_123 : FLinkO "ParishBoardsLaw" 123 (T_SI 12) := Or.inl (tb_at 1201 (by decide +kernel) (by decide +kernel))
theorem fl_LW_154 : FLinkO "ParishBoardsLaw" 154 (T_SI 14) := Or.inl (tb_at 1205 (by decide +kernel) (by decide +kernel))
theorem fl_LW_157 : FLinkO "ParishBoardsLaw" 157 (T_SI 4) := Or.inl (tb_at 1190 (by decide +kernel) (by decide +kernel))
theorem fl_LW_161 : FLinkO "ParishBoardsLaw" 161 (T_SI 5) := Or.inl (tb_at 1192 (by decide +kernel) (by decide +kernel))
theorem fl_LW_181 : FLinkO "ParishBoardsLaw" 181 (T_SI 1) := Or.inl (tb_at 1185 (by decide +kernel) (by decide +kernel))
theorem fl_LW_192 : FLinkO "ParishBoardsLaw" 192 (T_SI 6) := Or.inl (tb_at 1194 (by decide +kernel) (by decide +kernel))
theorem fl_SI_9 : FLinkO "ParishBoardsLaw$Sim" 9 (T_SI 6) := Or.inl (tb_at 1193 (by decide +kernel) (by decide +kernel))
theorem fl_SI_17 : FLinkO "ParishBoardsLaw$Sim" 17 (T_SI 7) := Or.inl (tb_at 1195 (by decide +kernel) (by decide +kernel))
theorem fl_SI_21 : FLinkO "ParishBoardsLaw$Sim" 21 (T_SI 11) := Or.inl (tb_at 1199 (by decide +kernel) (by decide +kernel))
theorem fl_SI_24 : FLinkO "ParishBoardsLaw$Sim" 24 (T_SI 13) := Or.inl (tb_at 1203 (by decide +kernel) (by decide +kernel))
theorem fl_SI_27 : FLinkO "ParishBoardsLaw$Sim" 27 (T_SI 14) := Or.inl (tb_at 1204 (by decide +kernel) (by decide +kernel))
theorem fl_SI_30 : FLinkO "ParishBoardsLaw$Sim" 30 (T_SI 4) := Or.inl (tb_at 1189 (by decide +kernel) (by decide +kernel))
theorem fl_SI_34 : FLinkO "ParishBoardsLaw$Sim" 34 (T_SI 5) := Or.inl (tb_at 1191 (by decide +kernel) (by decide +kernel))
theorem fl_SI_38 : FLinkO "ParishBoardsLaw$Sim" 38 (T_SI 8) := Or.inl (tb_at 1196 (by decide +kernel) (by decide +kernel))
theorem fl_SI_41 : FLinkO "ParishBoardsLaw$Sim" 41 (T_SI 9) := Or.inl (tb_at 1197 (by decide +kernel) (by decide +kernel))
theorem fl_SI_44 : FLinkO "ParishBoardsLaw$Sim" 44 (T_SI 10) := Or.inl (tb_at 1198 (by decide +kernel) (by decide +kernel))
theorem fl_SI_52 : FLinkO "ParishBoardsLaw$Sim" 52 (T_SI 0) := Or.inl (tb_at 1184 (by decide +kernel) (by decide +kernel))
theorem fl_SI_55 : FLinkO "ParishBoardsLaw$Sim" 55 (T_SI 1) := Or.inl (tb_at 1186 (by decide +kernel) (by decide +kernel))
theorem fl_SI_58 : FLinkO "ParishBoardsLaw$Sim" 58 (T_SI 2) := Or.inl (tb_at 1187 (by decide +kernel) (by decide +kernel))
theorem fl_SI_61 : FLinkO "ParishBoardsLaw$Sim" 61 (T_SI 3) := Or.inl (tb_at 1188 (by decide +kernel) (by decide +kernel))
theorem fl_SI_68 : FLinkO "ParishBoardsLaw$Sim" 68 (T_SI 12) := Or.inl (tb_at 1202 (by decide +kernel) (by decide +kernel))
theorem fl_AB_15 : FLinkO "java/lang/AbstractStringBuilder" 15 (T_SB 0) := Or.inl (tb_at 1396 (by decide +kernel) (by decide +kernel))
theorem fl_AB_22 : FLinkO "java/lang/AbstractStringBuilder" 22 (T_SB 1) := Or.inl (tb_at 1397 (by decide +kernel) (by decide +kernel))
theorem fl_AB_79 : FLinkO "java/lang/AbstractStringBuilder" 79 (T_SB 3) := Or.inl (tb_at 1399 (by decide +kernel) (by decide +kernel))
theorem fl_En_7 : FLinkO "java/lang/Enum" 7 (T_Ki 0) := Or.inl (tb_at 1746 (by decide +kernel) (by decide +kernel))
theorem fl_Str_9 : FLinkO "java/lang/String" 9 (T_Str 0) := Or.inl (tb_at 1456 (by decide +kernel) (by decide +kernel))
theorem fl_Str_15 : FLinkO "java/lang/String" 15 (T_Str 1) := Or.inl (tb_at 1457 (by decide +kernel) (by decide +kernel))
theorem fl_Str_1048 : FLinkO "java/lang/String" 1048 (T_SB 2) := Or.inl (tb_at 1398 (by decide +kernel) (by decide +kernel))
theorem ol_PB_1 : Cond.methodLink "ParishBoards" 1 Lib.objectInit ∈ tb := tb_at 100 (by decide +kernel) (by decide +kernel)
theorem il_PB_22 : ILinkO "ParishBoards" 22 ⟨"ParishBoards$Plan", "<init>", "()V"⟩ := ⟨Or.inl (tb_at 105 (by decide +kernel) (by decide +kernel)), tb_at 106 (by decide +kernel) (by decide +kernel), rfl⟩
theorem il_PB_32 : ILinkO "ParishBoards" 32 ⟨"ParishBoards$Tokens", "<init>", "()V"⟩ := ⟨Or.inr ⟨"ParishBoards", tb_at 259 (by decide +kernel) (by decide +kernel)⟩, tb_at 260 (by decide +kernel) (by decide +kernel), rfl⟩
theorem il_PB_39 : ILinkO "ParishBoards" 39 ⟨"ParishBoards$Grammar", "<init>", "(LParishBoards$Tokens;LParishBoards$Plan;)V"⟩ := ⟨Or.inl (tb_at 292 (by decide +kernel) (by decide +kernel)), tb_at 293 (by decide +kernel) (by decide +kernel), rfl⟩
theorem il_PB_48 : ILinkO "ParishBoards" 48 ⟨"ParishBoards$Names", "<init>", "(LParishBoards$Tokens;LParishBoards$Plan;)V"⟩ := ⟨Or.inl (tb_at 313 (by decide +kernel) (by decide +kernel)), tb_at 314 (by decide +kernel) (by decide +kernel), rfl⟩
theorem il_PB_55 : ILinkO "ParishBoards" 55 ⟨"ParishBoards$World", "<init>", "(LParishBoards$Plan;)V"⟩ := ⟨Or.inl (tb_at 345 (by decide +kernel) (by decide +kernel)), tb_at 346 (by decide +kernel) (by decide +kernel), rfl⟩
theorem il_PB_69 : ILinkO "ParishBoards" 69 ⟨"java/lang/IllegalStateException", "<init>", "(Ljava/lang/String;)V"⟩ := ⟨Or.inl (tb_at 853 (by decide +kernel) (by decide +kernel)), tb_at 854 (by decide +kernel) (by decide +kernel), rfl⟩
theorem vl_PB_72 : VLinkO "ParishBoards" 72 "ParishBoards" ⟨"ParishBoards", "append", "(I)V"⟩ := ⟨Or.inl (tb_at 859 (by decide +kernel) (by decide +kernel)), tb_at 861 (by decide +kernel) (by decide +kernel), tb_at 15 (by decide +kernel) (by decide +kernel)⟩
theorem il_PB_80 : ILinkO "ParishBoards" 80 ⟨"java/lang/IllegalArgumentException", "<init>", "(Ljava/lang/String;)V"⟩ := ⟨Or.inl (tb_at 785 (by decide +kernel) (by decide +kernel)), tb_at 786 (by decide +kernel) (by decide +kernel), rfl⟩
theorem vl_PB_81 : VLinkO "ParishBoards" 81 "ParishBoards$Tokens" ⟨"ParishBoards$Tokens", "scan", "([BI)V"⟩ := ⟨Or.inl (tb_at 867 (by decide +kernel) (by decide +kernel)), tb_at 868 (by decide +kernel) (by decide +kernel), tb_at 869 (by decide +kernel) (by decide +kernel)⟩
theorem vl_PB_85 : VLinkO "ParishBoards" 85 "ParishBoards$Plan" ⟨"ParishBoards$Plan", "clear", "()V"⟩ := ⟨Or.inl (tb_at 926 (by decide +kernel) (by decide +kernel)), tb_at 927 (by decide +kernel) (by decide +kernel), tb_at 928 (by decide +kernel) (by decide +kernel)⟩
theorem vl_PB_88 : VLinkO "ParishBoards" 88 "ParishBoards$Grammar" ⟨"ParishBoards$Grammar", "firstMisfit", "(LParishBoards$Plan;)I"⟩ := ⟨Or.inl (tb_at 930 (by decide +kernel) (by decide +kernel)), tb_at 931 (by decide +kernel) (by decide +kernel), tb_at 932 (by decide +kernel) (by decide +kernel)⟩
theorem vl_PB_92 : VLinkO "ParishBoards" 92 "ParishBoards$Tokens" ⟨"ParishBoards$Tokens", "startAt", "(I)I"⟩ := ⟨Or.inl (tb_at 1076 (by decide +kernel) (by decide +kernel)), tb_at 1077 (by decide +kernel) (by decide +kernel), tb_at 1078 (by decide +kernel) (by decide +kernel)⟩
theorem vl_PB_96 : VLinkO "ParishBoards" 96 "ParishBoards$Names" ⟨"ParishBoards$Names", "firstError", "(LParishBoards$Plan;)I"⟩ := ⟨Or.inl (tb_at 1080 (by decide +kernel) (by decide +kernel)), tb_at 1081 (by decide +kernel) (by decide +kernel), tb_at 1082 (by decide +kernel) (by decide +kernel)⟩
theorem vl_PB_102 : VLinkO "ParishBoards" 102 "ParishBoards" ⟨"ParishBoards", "beginAnew", "()V"⟩ := ⟨Or.inl (tb_at 1139 (by decide +kernel) (by decide +kernel)), tb_at 1141 (by decide +kernel) (by decide +kernel), tb_at 48 (by decide +kernel) (by decide +kernel)⟩
theorem il_PB_109 : ILinkO "ParishBoards" 109 ⟨"java/lang/IndexOutOfBoundsException", "<init>", "(Ljava/lang/String;)V"⟩ := ⟨Or.inl (tb_at 526 (by decide +kernel) (by decide +kernel)), tb_at 527 (by decide +kernel) (by decide +kernel), rfl⟩
theorem vl_PB_110 : VLinkO "ParishBoards" 110 "ParishBoards" ⟨"ParishBoards", "counted", "(I)I"⟩ := ⟨Or.inl (tb_at 551 (by decide +kernel) (by decide +kernel)), tb_at 553 (by decide +kernel) (by decide +kernel), tb_at 1 (by decide +kernel) (by decide +kernel)⟩
theorem vl_PB_113 : VLinkO "ParishBoards" 113 "ParishBoards" ⟨"ParishBoards", "isParish", "(I)Z"⟩ := ⟨Or.inl (tb_at 595 (by decide +kernel) (by decide +kernel)), tb_at 597 (by decide +kernel) (by decide +kernel), tb_at 7 (by decide +kernel) (by decide +kernel)⟩
theorem vl_PB_119 : VLinkO "ParishBoards" 119 "ParishBoards$World" ⟨"ParishBoards$World", "parishFact", "(II)I"⟩ := ⟨Or.inl (tb_at 600 (by decide +kernel) (by decide +kernel)), tb_at 601 (by decide +kernel) (by decide +kernel), tb_at 602 (by decide +kernel) (by decide +kernel)⟩
theorem vl_PB_135 : VLinkO "ParishBoards" 135 "ParishBoards" ⟨"ParishBoards", "isSheet", "(I)Z"⟩ := ⟨Or.inl (tb_at 621 (by decide +kernel) (by decide +kernel)), tb_at 623 (by decide +kernel) (by decide +kernel), tb_at 9 (by decide +kernel) (by decide +kernel)⟩
theorem vl_PB_140 : VLinkO "ParishBoards" 140 "ParishBoards$World" ⟨"ParishBoards$World", "sheetFact", "(II)I"⟩ := ⟨Or.inl (tb_at 626 (by decide +kernel) (by decide +kernel)), tb_at 627 (by decide +kernel) (by decide +kernel), tb_at 628 (by decide +kernel) (by decide +kernel)⟩
theorem vl_PB_154 : VLinkO "ParishBoards" 154 "ParishBoards" ⟨"ParishBoards", "isBoardOf", "(II)Z"⟩ := ⟨Or.inl (tb_at 656 (by decide +kernel) (by decide +kernel)), tb_at 658 (by decide +kernel) (by decide +kernel), tb_at 11 (by decide +kernel) (by decide +kernel)⟩
theorem vl_PB_160 : VLinkO "ParishBoards" 160 "ParishBoards$Board" ⟨"ParishBoards$Board", "shownAt", "(II)I"⟩ := ⟨Or.inl (tb_at 661 (by decide +kernel) (by decide +kernel)), tb_at 662 (by decide +kernel) (by decide +kernel), tb_at 663 (by decide +kernel) (by decide +kernel)⟩
theorem vl_PB_167 : VLinkO "ParishBoards" 167 "ParishBoards$Sheet" ⟨"ParishBoards$Sheet", "isAheadOf", "(LParishBoards$Sheet;)Z"⟩ := ⟨Or.inl (tb_at 671 (by decide +kernel) (by decide +kernel)), tb_at 672 (by decide +kernel) (by decide +kernel), tb_at 673 (by decide +kernel) (by decide +kernel)⟩
theorem vl_PB_171 : VLinkO "ParishBoards" 171 "ParishBoards" ⟨"ParishBoards", "isRoad", "(I)Z"⟩ := ⟨Or.inl (tb_at 741 (by decide +kernel) (by decide +kernel)), tb_at 743 (by decide +kernel) (by decide +kernel), tb_at 14 (by decide +kernel) (by decide +kernel)⟩
theorem vl_PB_176 : VLinkO "ParishBoards" 176 "ParishBoards$World" ⟨"ParishBoards$World", "roadFact", "(II)I"⟩ := ⟨Or.inl (tb_at 706 (by decide +kernel) (by decide +kernel)), tb_at 707 (by decide +kernel) (by decide +kernel), tb_at 708 (by decide +kernel) (by decide +kernel)⟩
theorem vl_PB_181 : VLinkO "ParishBoards" 181 "ParishBoards$World" ⟨"ParishBoards$World", "isFull", "()Z"⟩ := ⟨Or.inl (tb_at 1527 (by decide +kernel) (by decide +kernel)), tb_at 1528 (by decide +kernel) (by decide +kernel), tb_at 1529 (by decide +kernel) (by decide +kernel)⟩
theorem vl_PB_187 : VLinkO "ParishBoards" 187 "ParishBoards$World" ⟨"ParishBoards$World", "makeWritten", "(III)I"⟩ := ⟨Or.inl (tb_at 1532 (by decide +kernel) (by decide +kernel)), tb_at 1533 (by decide +kernel) (by decide +kernel), tb_at 1534 (by decide +kernel) (by decide +kernel)⟩
theorem sl_PB_191 : SLinkO "ParishBoards" 191 ⟨"ParishBoards", "isMark", "(I)Z"⟩ := ⟨Or.inl (tb_at 1558 (by decide +kernel) (by decide +kernel)), tb_at 1559 (by decide +kernel) (by decide +kernel)⟩
theorem vl_PB_196 : VLinkO "ParishBoards" 196 "ParishBoards$World" ⟨"ParishBoards$World", "canNote", "(II)Z"⟩ := ⟨Or.inl (tb_at 1562 (by decide +kernel) (by decide +kernel)), tb_at 1563 (by decide +kernel) (by decide +kernel), tb_at 1564 (by decide +kernel) (by decide +kernel)⟩
theorem vl_PB_201 : VLinkO "ParishBoards" 201 "ParishBoards$World" ⟨"ParishBoards$World", "makeNoted", "(III)I"⟩ := ⟨Or.inl (tb_at 1568 (by decide +kernel) (by decide +kernel)), tb_at 1569 (by decide +kernel) (by decide +kernel), tb_at 1570 (by decide +kernel) (by decide +kernel)⟩
theorem vl_PB_206 : VLinkO "ParishBoards" 206 "ParishBoards$World" ⟨"ParishBoards$World", "canMerge", "(II)Z"⟩ := ⟨Or.inl (tb_at 1598 (by decide +kernel) (by decide +kernel)), tb_at 1599 (by decide +kernel) (by decide +kernel), tb_at 1600 (by decide +kernel) (by decide +kernel)⟩
theorem vl_PB_211 : VLinkO "ParishBoards" 211 "ParishBoards$World" ⟨"ParishBoards$World", "makeMerged", "(III)I"⟩ := ⟨Or.inl (tb_at 1603 (by decide +kernel) (by decide +kernel)), tb_at 1604 (by decide +kernel) (by decide +kernel), tb_at 1605 (by decide +kernel) (by decide +kernel)⟩
theorem vl_PB_216 : VLinkO "ParishBoards" 216 "ParishBoards$World" ⟨"ParishBoards$World", "carry", "(I)I"⟩ := ⟨Or.inl (tb_at 1619 (by decide +kernel) (by decide +kernel)), tb_at 1620 (by decide +kernel) (by decide +kernel), tb_at 1621 (by decide +kernel) (by decide +kernel)⟩
theorem vl_PB_233 : VLinkO "ParishBoards" 233 "ParishBoards$World" ⟨"ParishBoards$World", "passDays", "(I)V"⟩ := ⟨Or.inl (tb_at 1661 (by decide +kernel) (by decide +kernel)), tb_at 1662 (by decide +kernel) (by decide +kernel), tb_at 1663 (by decide +kernel) (by decide +kernel)⟩
theorem vl_PB_242 : VLinkO "ParishBoards" 242 "ParishBoards$World" ⟨"ParishBoards$World", "tally", "(I)I"⟩ := ⟨Or.inl (tb_at 555 (by decide +kernel) (by decide +kernel)), tb_at 556 (by decide +kernel) (by decide +kernel), tb_at 557 (by decide +kernel) (by decide +kernel)⟩
theorem vl_PB_253 : VLinkO "ParishBoards" 253 "ParishBoards$Board" ⟨"ParishBoards$Board", "showsAsMuchAs", "(LParishBoards$Board;)Z"⟩ := ⟨Or.inl (tb_at 751 (by decide +kernel) (by decide +kernel)), tb_at 752 (by decide +kernel) (by decide +kernel), tb_at 753 (by decide +kernel) (by decide +kernel)⟩
theorem vl_PB_260 : VLinkO "ParishBoards" 260 "ParishBoards$World" ⟨"ParishBoards$World", "knowers", "(I)I"⟩ := ⟨Or.inl (tb_at 679 (by decide +kernel) (by decide +kernel)), tb_at 631 (by decide +kernel) (by decide +kernel), tb_at 632 (by decide +kernel) (by decide +kernel)⟩
theorem vl_PB_266 : VLinkO "ParishBoards" 266 "ParishBoards$World" ⟨"ParishBoards$World", "knownOnBoards", "()I"⟩ := ⟨Or.inl (tb_at 684 (by decide +kernel) (by decide +kernel)), tb_at 685 (by decide +kernel) (by decide +kernel), tb_at 686 (by decide +kernel) (by decide +kernel)⟩
theorem sl_PB_272 : SLinkO "ParishBoards" 272 ⟨"ParishBoards", "mixed", "(JI)J"⟩ := ⟨Or.inl (tb_at 693 (by decide +kernel) (by decide +kernel)), tb_at 694 (by decide +kernel) (by decide +kernel)⟩
theorem vl_PB_276 : VLinkO "ParishBoards" 276 "ParishBoards" ⟨"ParishBoards", "mixedParish", "(JI)J"⟩ := ⟨Or.inl (tb_at 697 (by decide +kernel) (by decide +kernel)), tb_at 699 (by decide +kernel) (by decide +kernel), tb_at 12 (by decide +kernel) (by decide +kernel)⟩
theorem vl_PB_279 : VLinkO "ParishBoards" 279 "ParishBoards" ⟨"ParishBoards", "mixedSheet", "(JI)J"⟩ := ⟨Or.inl (tb_at 702 (by decide +kernel) (by decide +kernel)), tb_at 704 (by decide +kernel) (by decide +kernel), tb_at 13 (by decide +kernel) (by decide +kernel)⟩
theorem vl_PB_282 : VLinkO "ParishBoards" 282 "ParishBoards$Plan" ⟨"ParishBoards$Plan", "settle", "(LParishBoards$Tokens;)V"⟩ := ⟨Or.inl (tb_at 1143 (by decide +kernel) (by decide +kernel)), tb_at 1144 (by decide +kernel) (by decide +kernel), tb_at 1145 (by decide +kernel) (by decide +kernel)⟩
theorem vl_PB_286 : VLinkO "ParishBoards" 286 "ParishBoards$World" ⟨"ParishBoards$World", "begin", "(LParishBoards$Plan;)V"⟩ := ⟨Or.inl (tb_at 1159 (by decide +kernel) (by decide +kernel)), tb_at 1160 (by decide +kernel) (by decide +kernel), tb_at 1161 (by decide +kernel) (by decide +kernel)⟩
theorem vl_PB_294 : VLinkO "ParishBoards" 294 "ParishBoards$Board" ⟨"ParishBoards$Board", "shownCount", "(I)I"⟩ := ⟨Or.inl (tb_at 701 (by decide +kernel) (by decide +kernel)), tb_at 580 (by decide +kernel) (by decide +kernel), tb_at 581 (by decide +kernel) (by decide +kernel)⟩
theorem ol_Bd_3 : Cond.methodLink "ParishBoards$Board" 3 Lib.objectInit ∈ tb := tb_at 395 (by decide +kernel) (by decide +kernel)
theorem vl_Bd_26 : VLinkO "ParishBoards$Board" 26 "ParishBoards$Board" ⟨"ParishBoards$Board", "clear", "()V"⟩ := ⟨Or.inl (tb_at 396 (by decide +kernel) (by decide +kernel)), tb_at 397 (by decide +kernel) (by decide +kernel), tb_at 398 (by decide +kernel) (by decide +kernel)⟩
theorem vl_Bd_43 : VLinkO "ParishBoards$Board" 43 "ParishBoards$Board" ⟨"ParishBoards$Board", "shownFrom", "(II)I"⟩ := ⟨Or.inl (tb_at 583 (by decide +kernel) (by decide +kernel)), tb_at 584 (by decide +kernel) (by decide +kernel), tb_at 585 (by decide +kernel) (by decide +kernel)⟩
theorem vl_Bd_47 : VLinkO "ParishBoards$Board" 47 "ParishBoards$Board" ⟨"ParishBoards$Board", "shownCount", "(I)I"⟩ := ⟨Or.inl (tb_at 579 (by decide +kernel) (by decide +kernel)), tb_at 580 (by decide +kernel) (by decide +kernel), tb_at 581 (by decide +kernel) (by decide +kernel)⟩
theorem ol_Cd_3 : Cond.methodLink "ParishBoards$Code" 3 Lib.objectInit ∈ tb := tb_at 114 (by decide +kernel) (by decide +kernel)
theorem vl_Cd_38 : VLinkO "ParishBoards$Code" 38 "ParishBoards$Tokens" ⟨"ParishBoards$Tokens", "worthAt", "(I)J"⟩ := ⟨Or.inl (tb_at 1152 (by decide +kernel) (by decide +kernel)), tb_at 1096 (by decide +kernel) (by decide +kernel), tb_at 1097 (by decide +kernel) (by decide +kernel)⟩
theorem vl_Cd_44 : VLinkO "ParishBoards$Code" 44 "ParishBoards$Tokens" ⟨"ParishBoards$Tokens", "meaningAt", "(I)I"⟩ := ⟨Or.inl (tb_at 1153 (by decide +kernel) (by decide +kernel)), tb_at 1119 (by decide +kernel) (by decide +kernel), tb_at 1120 (by decide +kernel) (by decide +kernel)⟩
-- no selects: ParishBoards$Code 53 ('ParishBoards$Kind', 'ordinal', '()I')
theorem vl_Cd_57 : VLinkO "ParishBoards$Code" 57 "ParishBoards$Code" ⟨"ParishBoards$Code", "push", "(I)V"⟩ := ⟨Or.inl (tb_at 1679 (by decide +kernel) (by decide +kernel)), tb_at 1681 (by decide +kernel) (by decide +kernel), tb_at 56 (by decide +kernel) (by decide +kernel)⟩
theorem vl_Cd_61 : VLinkO "ParishBoards$Code" 61 "ParishBoards$World" ⟨"ParishBoards$World", "answer", "(LParishBoards$Kind;II)I"⟩ := ⟨Or.inl (tb_at 1683 (by decide +kernel) (by decide +kernel)), tb_at 1575 (by decide +kernel) (by decide +kernel), tb_at 1576 (by decide +kernel) (by decide +kernel)⟩
theorem vl_Cd_67 : VLinkO "ParishBoards$Code" 67 "ParishBoards$Code" ⟨"ParishBoards$Code", "pop", "()I"⟩ := ⟨Or.inl (tb_at 1684 (by decide +kernel) (by decide +kernel)), tb_at 1686 (by decide +kernel) (by decide +kernel), tb_at 57 (by decide +kernel) (by decide +kernel)⟩
theorem sl_Cd_70 : SLinkO "ParishBoards$Code" 70 ⟨"ParishBoards$Code", "joined", "(LParishBoards$Kind;II)I"⟩ := ⟨Or.inl (tb_at 1688 (by decide +kernel) (by decide +kernel)), tb_at 1689 (by decide +kernel) (by decide +kernel)⟩
theorem sl_Cd_73 : SLinkO "ParishBoards$Code" 73 ⟨"java/lang/Math", "min", "(II)I"⟩ := ⟨Or.inl (tb_at 1691 (by decide +kernel) (by decide +kernel)), tb_at 1285 (by decide +kernel) (by decide +kernel)⟩
theorem sl_Cd_79 : SLinkO "ParishBoards$Code" 79 ⟨"java/lang/Math", "max", "(II)I"⟩ := ⟨Or.inl (tb_at 1692 (by decide +kernel) (by decide +kernel)), tb_at 1267 (by decide +kernel) (by decide +kernel)⟩
theorem sl_Cd_82 : SLinkO "ParishBoards$Code" 82 ⟨"ParishBoards$Code", "compares", "(LParishBoards$Kind;II)Z"⟩ := ⟨Or.inl (tb_at 1693 (by decide +kernel) (by decide +kernel)), tb_at 1694 (by decide +kernel) (by decide +kernel)⟩
theorem ol_Gr_3 : Cond.methodLink "ParishBoards$Grammar" 3 Lib.objectInit ∈ tb := tb_at 295 (by decide +kernel) (by decide +kernel)
theorem vl_Gr_32 : VLinkO "ParishBoards$Grammar" 32 "ParishBoards$Tokens" ⟨"ParishBoards$Tokens", "kindAt", "(I)LParishBoards$Kind;"⟩ := ⟨Or.inl (tb_at 934 (by decide +kernel) (by decide +kernel)), tb_at 935 (by decide +kernel) (by decide +kernel), tb_at 936 (by decide +kernel) (by decide +kernel)⟩
theorem vl_Gr_41 : VLinkO "ParishBoards$Grammar" 41 "ParishBoards$Grammar" ⟨"ParishBoards$Grammar", "line", "()V"⟩ := ⟨Or.inl (tb_at 939 (by decide +kernel) (by decide +kernel)), tb_at 941 (by decide +kernel) (by decide +kernel), tb_at 25 (by decide +kernel) (by decide +kernel)⟩
theorem vl_Gr_47 : VLinkO "ParishBoards$Grammar" 47 "ParishBoards$Grammar" ⟨"ParishBoards$Grammar", "take", "(LParishBoards$Kind;)V"⟩ := ⟨Or.inl (tb_at 951 (by decide +kernel) (by decide +kernel)), tb_at 953 (by decide +kernel) (by decide +kernel), tb_at 26 (by decide +kernel) (by decide +kernel)⟩
-- no selects: ParishBoards$Grammar 57 ('ParishBoards$Kind', 'ordinal', '()I')
theorem vl_Gr_64 : VLinkO "ParishBoards$Grammar" 64 "ParishBoards$Grammar" ⟨"ParishBoards$Grammar", "roadLine", "()V"⟩ := ⟨Or.inl (tb_at 956 (by decide +kernel) (by decide +kernel)), tb_at 958 (by decide +kernel) (by decide +kernel), tb_at 27 (by decide +kernel) (by decide +kernel)⟩
theorem vl_Gr_67 : VLinkO "ParishBoards$Grammar" 67 "ParishBoards$Plan" ⟨"ParishBoards$Plan", "nextOrder", "()LParishBoards$Order;"⟩ := ⟨Or.inl (tb_at 969 (by decide +kernel) (by decide +kernel)), tb_at 970 (by decide +kernel) (by decide +kernel), tb_at 971 (by decide +kernel) (by decide +kernel)⟩
theorem vl_Gr_73 : VLinkO "ParishBoards$Grammar" 73 "ParishBoards$Grammar" ⟨"ParishBoards$Grammar", "orderLine", "(LParishBoards$Order;)V"⟩ := ⟨Or.inl (tb_at 973 (by decide +kernel) (by decide +kernel)), tb_at 975 (by decide +kernel) (by decide +kernel), tb_at 28 (by decide +kernel) (by decide +kernel)⟩
theorem vl_Gr_121 : VLinkO "ParishBoards$Grammar" 121 "ParishBoards$Grammar" ⟨"ParishBoards$Grammar", "sum", "(I)V"⟩ := ⟨Or.inl (tb_at 982 (by decide +kernel) (by decide +kernel)), tb_at 984 (by decide +kernel) (by decide +kernel), tb_at 29 (by decide +kernel) (by decide +kernel)⟩
theorem vl_Gr_137 : VLinkO "ParishBoards$Grammar" 137 "ParishBoards$Grammar" ⟨"ParishBoards$Grammar", "wayOfMerging", "()I"⟩ := ⟨Or.inl (tb_at 1036 (by decide +kernel) (by decide +kernel)), tb_at 1038 (by decide +kernel) (by decide +kernel), tb_at 35 (by decide +kernel) (by decide +kernel)⟩
theorem vl_Gr_149 : VLinkO "ParishBoards$Grammar" 149 "ParishBoards$Grammar" ⟨"ParishBoards$Grammar", "test", "(I)V"⟩ := ⟨Or.inl (tb_at 1048 (by decide +kernel) (by decide +kernel)), tb_at 1050 (by decide +kernel) (by decide +kernel), tb_at 36 (by decide +kernel) (by decide +kernel)⟩
theorem vl_Gr_164 : VLinkO "ParishBoards$Grammar" 164 "ParishBoards$Grammar" ⟨"ParishBoards$Grammar", "both", "(I)V"⟩ := ⟨Or.inl (tb_at 1052 (by decide +kernel) (by decide +kernel)), tb_at 1054 (by decide +kernel) (by decide +kernel), tb_at 37 (by decide +kernel) (by decide +kernel)⟩
theorem vl_Gr_170 : VLinkO "ParishBoards$Grammar" 170 "ParishBoards$Code" ⟨"ParishBoards$Code", "add", "(LParishBoards$Kind;I)V"⟩ := ⟨Or.inl (tb_at 994 (by decide +kernel) (by decide +kernel)), tb_at 995 (by decide +kernel) (by decide +kernel), tb_at 996 (by decide +kernel) (by decide +kernel)⟩
theorem vl_Gr_174 : VLinkO "ParishBoards$Grammar" 174 "ParishBoards$Grammar" ⟨"ParishBoards$Grammar", "single", "(I)V"⟩ := ⟨Or.inl (tb_at 1056 (by decide +kernel) (by decide +kernel)), tb_at 1058 (by decide +kernel) (by decide +kernel), tb_at 38 (by decide +kernel) (by decide +kernel)⟩
theorem vl_Gr_183 : VLinkO "ParishBoards$Grammar" 183 "ParishBoards$Grammar" ⟨"ParishBoards$Grammar", "goesDeeper", "(LParishBoards$Kind;I)Z"⟩ := ⟨Or.inl (tb_at 1006 (by decide +kernel) (by decide +kernel)), tb_at 1008 (by decide +kernel) (by decide +kernel), tb_at 33 (by decide +kernel) (by decide +kernel)⟩
theorem vl_Gr_193 : VLinkO "ParishBoards$Grammar" 193 "ParishBoards$Grammar" ⟨"ParishBoards$Grammar", "board", "(LParishBoards$Kind;)V"⟩ := ⟨Or.inl (tb_at 998 (by decide +kernel) (by decide +kernel)), tb_at 1000 (by decide +kernel) (by decide +kernel), tb_at 32 (by decide +kernel) (by decide +kernel)⟩
theorem vl_Gr_196 : VLinkO "ParishBoards$Grammar" 196 "ParishBoards$Grammar" ⟨"ParishBoards$Grammar", "takeComparison", "()V"⟩ := ⟨Or.inl (tb_at 1066 (by decide +kernel) (by decide +kernel)), tb_at 1068 (by decide +kernel) (by decide +kernel), tb_at 39 (by decide +kernel) (by decide +kernel)⟩
theorem vl_Gr_199 : VLinkO "ParishBoards$Grammar" 199 "ParishBoards$Grammar" ⟨"ParishBoards$Grammar", "product", "(I)V"⟩ := ⟨Or.inl (tb_at 986 (by decide +kernel) (by decide +kernel)), tb_at 988 (by decide +kernel) (by decide +kernel), tb_at 30 (by decide +kernel) (by decide +kernel)⟩
theorem vl_Gr_208 : VLinkO "ParishBoards$Grammar" 208 "ParishBoards$Grammar" ⟨"ParishBoards$Grammar", "value", "(I)V"⟩ := ⟨Or.inl (tb_at 990 (by decide +kernel) (by decide +kernel)), tb_at 992 (by decide +kernel) (by decide +kernel), tb_at 31 (by decide +kernel) (by decide +kernel)⟩
theorem vl_Gr_226 : VLinkO "ParishBoards$Grammar" 226 "ParishBoards$Grammar" ⟨"ParishBoards$Grammar", "pair", "(I)V"⟩ := ⟨Or.inl (tb_at 1016 (by decide +kernel) (by decide +kernel)), tb_at 1018 (by decide +kernel) (by decide +kernel), tb_at 34 (by decide +kernel) (by decide +kernel)⟩
theorem ol_Nm_3 : Cond.methodLink "ParishBoards$Names" 3 Lib.objectInit ∈ tb := tb_at 316 (by decide +kernel) (by decide +kernel)
theorem vl_Nm_44 : VLinkO "ParishBoards$Names" 44 "ParishBoards$Names" ⟨"ParishBoards$Names", "look", "(I)V"⟩ := ⟨Or.inl (tb_at 1084 (by decide +kernel) (by decide +kernel)), tb_at 1086 (by decide +kernel) (by decide +kernel), tb_at 40 (by decide +kernel) (by decide +kernel)⟩
theorem vl_Nm_54 : VLinkO "ParishBoards$Names" 54 "ParishBoards$Tokens" ⟨"ParishBoards$Tokens", "kindAt", "(I)LParishBoards$Kind;"⟩ := ⟨Or.inl (tb_at 1089 (by decide +kernel) (by decide +kernel)), tb_at 935 (by decide +kernel) (by decide +kernel), tb_at 936 (by decide +kernel) (by decide +kernel)⟩
-- no selects: ParishBoards$Names 58 ('ParishBoards$Kind', 'ordinal', '()I')
theorem vl_Nm_68 : VLinkO "ParishBoards$Names" 68 "ParishBoards$Names" ⟨"ParishBoards$Names", "tell", "(I[JI)I"⟩ := ⟨Or.inl (tb_at 1091 (by decide +kernel) (by decide +kernel)), tb_at 1093 (by decide +kernel) (by decide +kernel), tb_at 41 (by decide +kernel) (by decide +kernel)⟩
theorem vl_Nm_77 : VLinkO "ParishBoards$Names" 77 "ParishBoards$Names" ⟨"ParishBoards$Names", "find", "(I[JI)V"⟩ := ⟨Or.inl (tb_at 1106 (by decide +kernel) (by decide +kernel)), tb_at 1108 (by decide +kernel) (by decide +kernel), tb_at 43 (by decide +kernel) (by decide +kernel)⟩
theorem vl_Nm_81 : VLinkO "ParishBoards$Names" 81 "ParishBoards$Names" ⟨"ParishBoards$Names", "findOtherParish", "(II)V"⟩ := ⟨Or.inl (tb_at 1114 (by decide +kernel) (by decide +kernel)), tb_at 1116 (by decide +kernel) (by decide +kernel), tb_at 44 (by decide +kernel) (by decide +kernel)⟩
theorem vl_Nm_85 : VLinkO "ParishBoards$Names" 85 "ParishBoards$Names" ⟨"ParishBoards$Names", "layRoad", "(I)V"⟩ := ⟨Or.inl (tb_at 1122 (by decide +kernel) (by decide +kernel)), tb_at 1124 (by decide +kernel) (by decide +kernel), tb_at 45 (by decide +kernel) (by decide +kernel)⟩
theorem vl_Nm_88 : VLinkO "ParishBoards$Names" 88 "ParishBoards$Names" ⟨"ParishBoards$Names", "countOrder", "(I)V"⟩ := ⟨Or.inl (tb_at 1131 (by decide +kernel) (by decide +kernel)), tb_at 1133 (by decide +kernel) (by decide +kernel), tb_at 46 (by decide +kernel) (by decide +kernel)⟩
theorem vl_Nm_91 : VLinkO "ParishBoards$Names" 91 "ParishBoards$Names" ⟨"ParishBoards$Names", "findBoard", "(I)V"⟩ := ⟨Or.inl (tb_at 1135 (by decide +kernel) (by decide +kernel)), tb_at 1137 (by decide +kernel) (by decide +kernel), tb_at 47 (by decide +kernel) (by decide +kernel)⟩
theorem vl_Nm_94 : VLinkO "ParishBoards$Names" 94 "ParishBoards$Tokens" ⟨"ParishBoards$Tokens", "worthAt", "(I)J"⟩ := ⟨Or.inl (tb_at 1095 (by decide +kernel) (by decide +kernel)), tb_at 1096 (by decide +kernel) (by decide +kernel), tb_at 1097 (by decide +kernel) (by decide +kernel)⟩
theorem sl_Nm_98 : SLinkO "ParishBoards$Names" 98 ⟨"ParishBoards$Names", "placeOf", "(J[JI)I"⟩ := ⟨Or.inl (tb_at 1099 (by decide +kernel) (by decide +kernel)), tb_at 1100 (by decide +kernel) (by decide +kernel)⟩
theorem vl_Nm_102 : VLinkO "ParishBoards$Names" 102 "ParishBoards$Names" ⟨"ParishBoards$Names", "fail", "(II)V"⟩ := ⟨Or.inl (tb_at 1102 (by decide +kernel) (by decide +kernel)), tb_at 1104 (by decide +kernel) (by decide +kernel), tb_at 42 (by decide +kernel) (by decide +kernel)⟩
theorem vl_Nm_105 : VLinkO "ParishBoards$Names" 105 "ParishBoards$Tokens" ⟨"ParishBoards$Tokens", "setMeaning", "(II)V"⟩ := ⟨Or.inl (tb_at 1110 (by decide +kernel) (by decide +kernel)), tb_at 1111 (by decide +kernel) (by decide +kernel), tb_at 1112 (by decide +kernel) (by decide +kernel)⟩
theorem vl_Nm_108 : VLinkO "ParishBoards$Names" 108 "ParishBoards$Tokens" ⟨"ParishBoards$Tokens", "meaningAt", "(I)I"⟩ := ⟨Or.inl (tb_at 1118 (by decide +kernel) (by decide +kernel)), tb_at 1119 (by decide +kernel) (by decide +kernel), tb_at 1120 (by decide +kernel) (by decide +kernel)⟩
theorem vl_Nm_117 : VLinkO "ParishBoards$Names" 117 "ParishBoards$Road" ⟨"ParishBoards$Road", "lay", "(III)V"⟩ := ⟨Or.inl (tb_at 1127 (by decide +kernel) (by decide +kernel)), tb_at 1128 (by decide +kernel) (by decide +kernel), tb_at 1129 (by decide +kernel) (by decide +kernel)⟩
theorem ol_Od_3 : Cond.methodLink "ParishBoards$Order" 3 Lib.objectInit ∈ tb := tb_at 175 (by decide +kernel) (by decide +kernel)
theorem vl_Od_45 : VLinkO "ParishBoards$Order" 45 "ParishBoards$Tokens" ⟨"ParishBoards$Tokens", "meaningAt", "(I)I"⟩ := ⟨Or.inl (tb_at 1158 (by decide +kernel) (by decide +kernel)), tb_at 1119 (by decide +kernel) (by decide +kernel), tb_at 1120 (by decide +kernel) (by decide +kernel)⟩
theorem ol_Pl_3 : Cond.methodLink "ParishBoards$Plan" 3 Lib.objectInit ∈ tb := tb_at 108 (by decide +kernel) (by decide +kernel)
theorem il_Pl_11 : ILinkO "ParishBoards$Plan" 11 ⟨"ParishBoards$Code", "<init>", "()V"⟩ := ⟨Or.inr ⟨"ParishBoards", tb_at 111 (by decide +kernel) (by decide +kernel)⟩, tb_at 112 (by decide +kernel) (by decide +kernel), rfl⟩
theorem il_Pl_43 : ILinkO "ParishBoards$Plan" 43 ⟨"ParishBoards$Road", "<init>", "()V"⟩ := ⟨Or.inr ⟨"ParishBoards", tb_at 145 (by decide +kernel) (by decide +kernel)⟩, tb_at 146 (by decide +kernel) (by decide +kernel), rfl⟩
theorem il_Pl_44 : ILinkO "ParishBoards$Plan" 44 ⟨"ParishBoards$Order", "<init>", "()V"⟩ := ⟨Or.inr ⟨"ParishBoards", tb_at 172 (by decide +kernel) (by decide +kernel)⟩, tb_at 173 (by decide +kernel) (by decide +kernel), rfl⟩
theorem vl_Pl_48 : VLinkO "ParishBoards$Plan" 48 "ParishBoards$Code" ⟨"ParishBoards$Code", "settle", "(LParishBoards$Tokens;)V"⟩ := ⟨Or.inl (tb_at 1147 (by decide +kernel) (by decide +kernel)), tb_at 1148 (by decide +kernel) (by decide +kernel), tb_at 1149 (by decide +kernel) (by decide +kernel)⟩
theorem vl_Pl_52 : VLinkO "ParishBoards$Plan" 52 "ParishBoards$Order" ⟨"ParishBoards$Order", "settle", "(LParishBoards$Tokens;)V"⟩ := ⟨Or.inl (tb_at 1154 (by decide +kernel) (by decide +kernel)), tb_at 1155 (by decide +kernel) (by decide +kernel), tb_at 1156 (by decide +kernel) (by decide +kernel)⟩
theorem ol_Rd_3 : Cond.methodLink "ParishBoards$Road" 3 Lib.objectInit ∈ tb := tb_at 148 (by decide +kernel) (by decide +kernel)
theorem ml_Rd_28 : Cond.methodLink "ParishBoards$Road" 28 arraycopyName ∈ tb := tb_at 1168 (by decide +kernel) (by decide +kernel)
theorem ol_Sh_3 : Cond.methodLink "ParishBoards$Sheet" 3 Lib.objectInit ∈ tb := tb_at 358 (by decide +kernel) (by decide +kernel)
theorem ol_Tk_3 : Cond.methodLink "ParishBoards$Tokens" 3 Lib.objectInit ∈ tb := tb_at 262 (by decide +kernel) (by decide +kernel)
theorem vl_Tk_39 : VLinkO "ParishBoards$Tokens" 39 "ParishBoards$Tokens" ⟨"ParishBoards$Tokens", "behindBlanks", "(I)I"⟩ := ⟨Or.inl (tb_at 871 (by decide +kernel) (by decide +kernel)), tb_at 873 (by decide +kernel) (by decide +kernel), tb_at 16 (by decide +kernel) (by decide +kernel)⟩
theorem vl_Tk_43 : VLinkO "ParishBoards$Tokens" 43 "ParishBoards$Tokens" ⟨"ParishBoards$Tokens", "behindToken", "(II)I"⟩ := ⟨Or.inl (tb_at 879 (by decide +kernel) (by decide +kernel)), tb_at 881 (by decide +kernel) (by decide +kernel), tb_at 18 (by decide +kernel) (by decide +kernel)⟩
theorem vl_Tk_54 : VLinkO "ParishBoards$Tokens" 54 "ParishBoards$Tokens" ⟨"ParishBoards$Tokens", "behindRun", "(I)I"⟩ := ⟨Or.inl (tb_at 886 (by decide +kernel) (by decide +kernel)), tb_at 888 (by decide +kernel) (by decide +kernel), tb_at 19 (by decide +kernel) (by decide +kernel)⟩
theorem vl_Tk_57 : VLinkO "ParishBoards$Tokens" 57 "ParishBoards$Tokens" ⟨"ParishBoards$Tokens", "kindOf", "(II)LParishBoards$Kind;"⟩ := ⟨Or.inl (tb_at 908 (by decide +kernel) (by decide +kernel)), tb_at 910 (by decide +kernel) (by decide +kernel), tb_at 22 (by decide +kernel) (by decide +kernel)⟩
theorem vl_Tk_64 : VLinkO "ParishBoards$Tokens" 64 "ParishBoards$Tokens" ⟨"ParishBoards$Tokens", "numberWorth", "(II)J"⟩ := ⟨Or.inl (tb_at 916 (by decide +kernel) (by decide +kernel)), tb_at 918 (by decide +kernel) (by decide +kernel), tb_at 23 (by decide +kernel) (by decide +kernel)⟩
theorem vl_Tk_68 : VLinkO "ParishBoards$Tokens" 68 "ParishBoards$Tokens" ⟨"ParishBoards$Tokens", "nameWorth", "(II)J"⟩ := ⟨Or.inl (tb_at 921 (by decide +kernel) (by decide +kernel)), tb_at 923 (by decide +kernel) (by decide +kernel), tb_at 24 (by decide +kernel) (by decide +kernel)⟩
theorem vl_Tk_71 : VLinkO "ParishBoards$Tokens" 71 "ParishBoards$Tokens" ⟨"ParishBoards$Tokens", "byteAt", "(I)I"⟩ := ⟨Or.inl (tb_at 875 (by decide +kernel) (by decide +kernel)), tb_at 877 (by decide +kernel) (by decide +kernel), tb_at 17 (by decide +kernel) (by decide +kernel)⟩
theorem sl_Tk_74 : SLinkO "ParishBoards$Tokens" 74 ⟨"ParishBoards$Tokens", "isLetter", "(I)Z"⟩ := ⟨Or.inl (tb_at 890 (by decide +kernel) (by decide +kernel)), tb_at 891 (by decide +kernel) (by decide +kernel)⟩
theorem sl_Tk_78 : SLinkO "ParishBoards$Tokens" 78 ⟨"ParishBoards$Tokens", "isDigit", "(I)Z"⟩ := ⟨Or.inl (tb_at 893 (by decide +kernel) (by decide +kernel)), tb_at 894 (by decide +kernel) (by decide +kernel)⟩
theorem vl_Tk_81 : VLinkO "ParishBoards$Tokens" 81 "ParishBoards$Tokens" ⟨"ParishBoards$Tokens", "symbolAt", "(I)LParishBoards$Kind;"⟩ := ⟨Or.inl (tb_at 896 (by decide +kernel) (by decide +kernel)), tb_at 898 (by decide +kernel) (by decide +kernel), tb_at 20 (by decide +kernel) (by decide +kernel)⟩
theorem vl_Tk_89 : VLinkO "ParishBoards$Tokens" 89 "java/lang/String" ⟨"java/lang/String", "length", "()I"⟩ := ⟨Or.inl (tb_at 902 (by decide +kernel) (by decide +kernel)), tb_at 792 (by decide +kernel) (by decide +kernel), tb_at 793 (by decide +kernel) (by decide +kernel)⟩
theorem vl_Tk_97 : VLinkO "ParishBoards$Tokens" 97 "ParishBoards$Tokens" ⟨"ParishBoards$Tokens", "standsAt", "(ILjava/lang/String;)Z"⟩ := ⟨Or.inl (tb_at 903 (by decide +kernel) (by decide +kernel)), tb_at 905 (by decide +kernel) (by decide +kernel), tb_at 21 (by decide +kernel) (by decide +kernel)⟩
theorem vl_Tk_104 : VLinkO "ParishBoards$Tokens" 104 "java/lang/String" ⟨"java/lang/String", "charAt", "(I)C"⟩ := ⟨Or.inl (tb_at 907 (by decide +kernel) (by decide +kernel)), tb_at 802 (by decide +kernel) (by decide +kernel), tb_at 803 (by decide +kernel) (by decide +kernel)⟩
theorem ol_Wd_3 : Cond.methodLink "ParishBoards$World" 3 Lib.objectInit ∈ tb := tb_at 348 (by decide +kernel) (by decide +kernel)
theorem il_Wd_46 : ILinkO "ParishBoards$World" 46 ⟨"ParishBoards$Sheet", "<init>", "()V"⟩ := ⟨Or.inr ⟨"ParishBoards", tb_at 355 (by decide +kernel) (by decide +kernel)⟩, tb_at 356 (by decide +kernel) (by decide +kernel), rfl⟩
theorem il_Wd_47 : ILinkO "ParishBoards$World" 47 ⟨"ParishBoards$Board", "<init>", "()V"⟩ := ⟨Or.inl (tb_at 392 (by decide +kernel) (by decide +kernel)), tb_at 393 (by decide +kernel) (by decide +kernel), rfl⟩
theorem il_Wd_48 : ILinkO "ParishBoards$World" 48 ⟨"ParishBoards$Road", "<init>", "()V"⟩ := ⟨Or.inr ⟨"ParishBoards", tb_at 418 (by decide +kernel) (by decide +kernel)⟩, tb_at 146 (by decide +kernel) (by decide +kernel), rfl⟩
theorem vl_Wd_49 : VLinkO "ParishBoards$World" 49 "ParishBoards$Board" ⟨"ParishBoards$Board", "clear", "()V"⟩ := ⟨Or.inl (tb_at 1163 (by decide +kernel) (by decide +kernel)), tb_at 397 (by decide +kernel) (by decide +kernel), tb_at 398 (by decide +kernel) (by decide +kernel)⟩
theorem vl_Wd_58 : VLinkO "ParishBoards$World" 58 "ParishBoards$Road" ⟨"ParishBoards$Road", "copyFrom", "(LParishBoards$Road;)V"⟩ := ⟨Or.inl (tb_at 1164 (by decide +kernel) (by decide +kernel)), tb_at 1165 (by decide +kernel) (by decide +kernel), tb_at 1166 (by decide +kernel) (by decide +kernel)⟩
theorem vl_Wd_77 : VLinkO "ParishBoards$World" 77 "ParishBoards$World" ⟨"ParishBoards$World", "underWayOnRoads", "()I"⟩ := ⟨Or.inl (tb_at 559 (by decide +kernel) (by decide +kernel)), tb_at 561 (by decide +kernel) (by decide +kernel), tb_at 2 (by decide +kernel) (by decide +kernel)⟩
theorem vl_Wd_81 : VLinkO "ParishBoards$World" 81 "ParishBoards$World" ⟨"ParishBoards$World", "waitingAtBoards", "()I"⟩ := ⟨Or.inl (tb_at 567 (by decide +kernel) (by decide +kernel)), tb_at 569 (by decide +kernel) (by decide +kernel), tb_at 4 (by decide +kernel) (by decide +kernel)⟩
theorem vl_Wd_84 : VLinkO "ParishBoards$World" 84 "ParishBoards$World" ⟨"ParishBoards$World", "tornOnBoards", "()I"⟩ := ⟨Or.inl (tb_at 571 (by decide +kernel) (by decide +kernel)), tb_at 573 (by decide +kernel) (by decide +kernel), tb_at 5 (by decide +kernel) (by decide +kernel)⟩
theorem vl_Wd_87 : VLinkO "ParishBoards$World" 87 "ParishBoards$World" ⟨"ParishBoards$World", "mergedSheets", "()I"⟩ := ⟨Or.inl (tb_at 587 (by decide +kernel) (by decide +kernel)), tb_at 589 (by decide +kernel) (by decide +kernel), tb_at 6 (by decide +kernel) (by decide +kernel)⟩
theorem vl_Wd_90 : VLinkO "ParishBoards$World" 90 "ParishBoards$Board" ⟨"ParishBoards$Board", "knownCount", "()I"⟩ := ⟨Or.inl (tb_at 604 (by decide +kernel) (by decide +kernel)), tb_at 605 (by decide +kernel) (by decide +kernel), tb_at 606 (by decide +kernel) (by decide +kernel)⟩
theorem vl_Wd_96 : VLinkO "ParishBoards$World" 96 "ParishBoards$Board" ⟨"ParishBoards$Board", "noticesWith", "(I)I"⟩ := ⟨Or.inl (tb_at 575 (by decide +kernel) (by decide +kernel)), tb_at 576 (by decide +kernel) (by decide +kernel), tb_at 577 (by decide +kernel) (by decide +kernel)⟩
theorem vl_Wd_104 : VLinkO "ParishBoards$World" 104 "ParishBoards$World" ⟨"ParishBoards$World", "roadsFrom", "(I)I"⟩ := ⟨Or.inl (tb_at 608 (by decide +kernel) (by decide +kernel)), tb_at 610 (by decide +kernel) (by decide +kernel), tb_at 8 (by decide +kernel) (by decide +kernel)⟩
theorem vl_Wd_123 : VLinkO "ParishBoards$World" 123 "ParishBoards$World" ⟨"ParishBoards$World", "knowers", "(I)I"⟩ := ⟨Or.inl (tb_at 630 (by decide +kernel) (by decide +kernel)), tb_at 631 (by decide +kernel) (by decide +kernel), tb_at 632 (by decide +kernel) (by decide +kernel)⟩
theorem vl_Wd_126 : VLinkO "ParishBoards$World" 126 "ParishBoards$World" ⟨"ParishBoards$World", "showers", "(I)I"⟩ := ⟨Or.inl (tb_at 642 (by decide +kernel) (by decide +kernel)), tb_at 644 (by decide +kernel) (by decide +kernel), tb_at 10 (by decide +kernel) (by decide +kernel)⟩
theorem vl_Wd_138 : VLinkO "ParishBoards$World" 138 "ParishBoards$World" ⟨"ParishBoards$World", "underWayOn", "(LParishBoards$Road;)I"⟩ := ⟨Or.inl (tb_at 563 (by decide +kernel) (by decide +kernel)), tb_at 565 (by decide +kernel) (by decide +kernel), tb_at 3 (by decide +kernel) (by decide +kernel)⟩
theorem vl_Wd_145 : VLinkO "ParishBoards$World" 145 "ParishBoards$Board" ⟨"ParishBoards$Board", "has", "(LParishBoards$Sheet;)Z"⟩ := ⟨Or.inl (tb_at 638 (by decide +kernel) (by decide +kernel)), tb_at 639 (by decide +kernel) (by decide +kernel), tb_at 640 (by decide +kernel) (by decide +kernel)⟩
theorem vl_Wd_149 : VLinkO "ParishBoards$World" 149 "ParishBoards$World" ⟨"ParishBoards$World", "isKnownAt", "(II)Z"⟩ := ⟨Or.inl (tb_at 634 (by decide +kernel) (by decide +kernel)), tb_at 635 (by decide +kernel) (by decide +kernel), tb_at 636 (by decide +kernel) (by decide +kernel)⟩
theorem vl_Wd_153 : VLinkO "ParishBoards$World" 153 "ParishBoards$Board" ⟨"ParishBoards$Board", "shownFrom", "(II)I"⟩ := ⟨Or.inl (tb_at 646 (by decide +kernel) (by decide +kernel)), tb_at 584 (by decide +kernel) (by decide +kernel), tb_at 585 (by decide +kernel) (by decide +kernel)⟩
-- no selects: ParishBoards$World 165 ('ParishBoards$Kind', 'ordinal', '()I')
theorem vl_Wd_170 : VLinkO "ParishBoards$World" 170 "ParishBoards$Board" ⟨"ParishBoards$Board", "shownAt", "(II)I"⟩ := ⟨Or.inl (tb_at 1580 (by decide +kernel) (by decide +kernel)), tb_at 662 (by decide +kernel) (by decide +kernel), tb_at 663 (by decide +kernel) (by decide +kernel)⟩
theorem vl_Wd_173 : VLinkO "ParishBoards$World" 173 "ParishBoards$Board" ⟨"ParishBoards$Board", "shownCount", "(I)I"⟩ := ⟨Or.inl (tb_at 1566 (by decide +kernel) (by decide +kernel)), tb_at 580 (by decide +kernel) (by decide +kernel), tb_at 581 (by decide +kernel) (by decide +kernel)⟩
theorem vl_Wd_176 : VLinkO "ParishBoards$World" 176 "ParishBoards$World" ⟨"ParishBoards$World", "marksShown", "(LParishBoards$Board;I)I"⟩ := ⟨Or.inl (tb_at 1536 (by decide +kernel) (by decide +kernel)), tb_at 1538 (by decide +kernel) (by decide +kernel), tb_at 49 (by decide +kernel) (by decide +kernel)⟩
theorem sl_Wd_180 : SLinkO "ParishBoards$World" 180 ⟨"java/lang/Integer", "bitCount", "(I)I"⟩ := ⟨Or.inl (tb_at 1581 (by decide +kernel) (by decide +kernel)), tb_at 1582 (by decide +kernel) (by decide +kernel)⟩
theorem vl_Wd_185 : VLinkO "ParishBoards$World" 185 "ParishBoards$World" ⟨"ParishBoards$World", "make", "(IIIII)I"⟩ := ⟨Or.inl (tb_at 1540 (by decide +kernel) (by decide +kernel)), tb_at 1542 (by decide +kernel) (by decide +kernel), tb_at 50 (by decide +kernel) (by decide +kernel)⟩
theorem vl_Wd_193 : VLinkO "ParishBoards$World" 193 "ParishBoards$World" ⟨"ParishBoards$World", "answer", "(LParishBoards$Kind;II)I"⟩ := ⟨Or.inl (tb_at 1574 (by decide +kernel) (by decide +kernel)), tb_at 1575 (by decide +kernel) (by decide +kernel), tb_at 1576 (by decide +kernel) (by decide +kernel)⟩
theorem sl_Wd_197 : SLinkO "ParishBoards$World" 197 ⟨"java/lang/Math", "min", "(II)I"⟩ := ⟨Or.inl (tb_at 1607 (by decide +kernel) (by decide +kernel)), tb_at 1285 (by decide +kernel) (by decide +kernel)⟩
theorem sl_Wd_202 : SLinkO "ParishBoards$World" 202 ⟨"java/lang/Math", "max", "(II)I"⟩ := ⟨Or.inl (tb_at 1608 (by decide +kernel) (by decide +kernel)), tb_at 1267 (by decide +kernel) (by decide +kernel)⟩
theorem vl_Wd_205 : VLinkO "ParishBoards$World" 205 "ParishBoards$World" ⟨"ParishBoards$World", "isFull", "()Z"⟩ := ⟨Or.inl (tb_at 1544 (by decide +kernel) (by decide +kernel)), tb_at 1528 (by decide +kernel) (by decide +kernel), tb_at 1529 (by decide +kernel) (by decide +kernel)⟩
theorem ml_Wd_212 : Cond.methodLink "ParishBoards$World" 212 arraycopyName ∈ tb := tb_at 1545 (by decide +kernel) (by decide +kernel)
theorem vl_Wd_218 : VLinkO "ParishBoards$World" 218 "ParishBoards$Board" ⟨"ParishBoards$Board", "show", "(III)V"⟩ := ⟨Or.inl (tb_at 1546 (by decide +kernel) (by decide +kernel)), tb_at 1547 (by decide +kernel) (by decide +kernel), tb_at 1548 (by decide +kernel) (by decide +kernel)⟩
theorem vl_Wd_226 : VLinkO "ParishBoards$World" 226 "ParishBoards$World" ⟨"ParishBoards$World", "carriesOut", "(LParishBoards$Order;)Z"⟩ := ⟨Or.inl (tb_at 1665 (by decide +kernel) (by decide +kernel)), tb_at 1667 (by decide +kernel) (by decide +kernel), tb_at 55 (by decide +kernel) (by decide +kernel)⟩
theorem vl_Wd_230 : VLinkO "ParishBoards$World" 230 "ParishBoards$World" ⟨"ParishBoards$World", "bringFrom", "(LParishBoards$Road;)V"⟩ := ⟨Or.inl (tb_at 1710 (by decide +kernel) (by decide +kernel)), tb_at 1712 (by decide +kernel) (by decide +kernel), tb_at 59 (by decide +kernel) (by decide +kernel)⟩
theorem vl_Wd_233 : VLinkO "ParishBoards$World" 233 "ParishBoards$World" ⟨"ParishBoards$World", "hangOn", "(LParishBoards$Board;)V"⟩ := ⟨Or.inl (tb_at 1718 (by decide +kernel) (by decide +kernel)), tb_at 1720 (by decide +kernel) (by decide +kernel), tb_at 60 (by decide +kernel) (by decide +kernel)⟩
theorem vl_Wd_236 : VLinkO "ParishBoards$World" 236 "ParishBoards$Order" ⟨"ParishBoards$Order", "hasTest", "()Z"⟩ := ⟨Or.inl (tb_at 1669 (by decide +kernel) (by decide +kernel)), tb_at 1670 (by decide +kernel) (by decide +kernel), tb_at 1671 (by decide +kernel) (by decide +kernel)⟩
theorem vl_Wd_251 : VLinkO "ParishBoards$World" 251 "ParishBoards$Code" ⟨"ParishBoards$Code", "reckon", "(IILParishBoards$World;)I"⟩ := ⟨Or.inl (tb_at 1673 (by decide +kernel) (by decide +kernel)), tb_at 1674 (by decide +kernel) (by decide +kernel), tb_at 1675 (by decide +kernel) (by decide +kernel)⟩
theorem vl_Wd_266 : VLinkO "ParishBoards$World" 266 "ParishBoards$World" ⟨"ParishBoards$World", "carry", "(I)I"⟩ := ⟨Or.inl (tb_at 1697 (by decide +kernel) (by decide +kernel)), tb_at 1620 (by decide +kernel) (by decide +kernel), tb_at 1621 (by decide +kernel) (by decide +kernel)⟩
theorem vl_Wd_274 : VLinkO "ParishBoards$World" 274 "ParishBoards$World" ⟨"ParishBoards$World", "canMerge", "(II)Z"⟩ := ⟨Or.inl (tb_at 1699 (by decide +kernel) (by decide +kernel)), tb_at 1599 (by decide +kernel) (by decide +kernel), tb_at 1600 (by decide +kernel) (by decide +kernel)⟩
theorem vl_Wd_280 : VLinkO "ParishBoards$World" 280 "ParishBoards$World" ⟨"ParishBoards$World", "makeMerged", "(III)I"⟩ := ⟨Or.inl (tb_at 1700 (by decide +kernel) (by decide +kernel)), tb_at 1604 (by decide +kernel) (by decide +kernel), tb_at 1605 (by decide +kernel) (by decide +kernel)⟩
theorem vl_Wd_290 : VLinkO "ParishBoards$World" 290 "ParishBoards$World" ⟨"ParishBoards$World", "isNewMark", "(III)Z"⟩ := ⟨Or.inl (tb_at 1702 (by decide +kernel) (by decide +kernel)), tb_at 1704 (by decide +kernel) (by decide +kernel), tb_at 58 (by decide +kernel) (by decide +kernel)⟩
theorem vl_Wd_294 : VLinkO "ParishBoards$World" 294 "ParishBoards$World" ⟨"ParishBoards$World", "makeNoted", "(III)I"⟩ := ⟨Or.inl (tb_at 1708 (by decide +kernel) (by decide +kernel)), tb_at 1569 (by decide +kernel) (by decide +kernel), tb_at 1570 (by decide +kernel) (by decide +kernel)⟩
theorem vl_Wd_297 : VLinkO "ParishBoards$World" 297 "ParishBoards$World" ⟨"ParishBoards$World", "makeWritten", "(III)I"⟩ := ⟨Or.inl (tb_at 1709 (by decide +kernel) (by decide +kernel)), tb_at 1533 (by decide +kernel) (by decide +kernel), tb_at 1534 (by decide +kernel) (by decide +kernel)⟩
theorem sl_Wd_300 : SLinkO "ParishBoards$World" 300 ⟨"ParishBoards", "isMark", "(I)Z"⟩ := ⟨Or.inr ⟨"ParishBoards", tb_at 1706 (by decide +kernel) (by decide +kernel)⟩, tb_at 1559 (by decide +kernel) (by decide +kernel)⟩
theorem vl_Wd_304 : VLinkO "ParishBoards$World" 304 "ParishBoards$World" ⟨"ParishBoards$World", "canNote", "(II)Z"⟩ := ⟨Or.inl (tb_at 1707 (by decide +kernel) (by decide +kernel)), tb_at 1563 (by decide +kernel) (by decide +kernel), tb_at 1564 (by decide +kernel) (by decide +kernel)⟩
theorem vl_Wd_307 : VLinkO "ParishBoards$World" 307 "ParishBoards$Board" ⟨"ParishBoards$Board", "keepWaiting", "(I)V"⟩ := ⟨Or.inl (tb_at 1714 (by decide +kernel) (by decide +kernel)), tb_at 1715 (by decide +kernel) (by decide +kernel), tb_at 1716 (by decide +kernel) (by decide +kernel)⟩
theorem vl_Wd_315 : VLinkO "ParishBoards$World" 315 "ParishBoards$Board" ⟨"ParishBoards$Board", "canHang", "(LParishBoards$Sheet;)Z"⟩ := ⟨Or.inl (tb_at 1722 (by decide +kernel) (by decide +kernel)), tb_at 1723 (by decide +kernel) (by decide +kernel), tb_at 1724 (by decide +kernel) (by decide +kernel)⟩
theorem vl_Wd_318 : VLinkO "ParishBoards$World" 318 "ParishBoards$World" ⟨"ParishBoards$World", "hang", "(LParishBoards$Board;I)V"⟩ := ⟨Or.inl (tb_at 1726 (by decide +kernel) (by decide +kernel)), tb_at 1728 (by decide +kernel) (by decide +kernel), tb_at 61 (by decide +kernel) (by decide +kernel)⟩
theorem vl_Wd_322 : VLinkO "ParishBoards$World" 322 "ParishBoards$Board" ⟨"ParishBoards$Board", "endWaiting", "(I)V"⟩ := ⟨Or.inl (tb_at 1730 (by decide +kernel) (by decide +kernel)), tb_at 1731 (by decide +kernel) (by decide +kernel), tb_at 1732 (by decide +kernel) (by decide +kernel)⟩
theorem vl_Wd_325 : VLinkO "ParishBoards$World" 325 "ParishBoards$Sheet" ⟨"ParishBoards$Sheet", "isAheadOf", "(LParishBoards$Sheet;)Z"⟩ := ⟨Or.inl (tb_at 1734 (by decide +kernel) (by decide +kernel)), tb_at 672 (by decide +kernel) (by decide +kernel), tb_at 673 (by decide +kernel) (by decide +kernel)⟩
theorem vl_LW_9 : VLinkO "ParishBoardsLaw" 9 "ParishBoards" ⟨"ParishBoards", "trim", "(I)I"⟩ := ⟨Or.inl (tb_at 771 (by decide +kernel) (by decide +kernel)), tb_at 772 (by decide +kernel) (by decide +kernel), tb_at 773 (by decide +kernel) (by decide +kernel)⟩
theorem vl_LW_15 : VLinkO "ParishBoardsLaw" 15 "java/lang/String" ⟨"java/lang/String", "length", "()I"⟩ := ⟨Or.inl (tb_at 791 (by decide +kernel) (by decide +kernel)), tb_at 792 (by decide +kernel) (by decide +kernel), tb_at 793 (by decide +kernel) (by decide +kernel)⟩
theorem vl_LW_21 : VLinkO "ParishBoardsLaw" 21 "java/lang/String" ⟨"java/lang/String", "charAt", "(I)C"⟩ := ⟨Or.inl (tb_at 801 (by decide +kernel) (by decide +kernel)), tb_at 802 (by decide +kernel) (by decide +kernel), tb_at 803 (by decide +kernel) (by decide +kernel)⟩
theorem vl_LW_25 : VLinkO "ParishBoardsLaw" 25 "ParishBoards" ⟨"ParishBoards", "feed", "(IIIII)I"⟩ := ⟨Or.inl (tb_at 839 (by decide +kernel) (by decide +kernel)), tb_at 840 (by decide +kernel) (by decide +kernel), tb_at 841 (by decide +kernel) (by decide +kernel)⟩
theorem vl_LW_29 : VLinkO "ParishBoardsLaw" 29 "ParishBoards" ⟨"ParishBoards", "teach", "()I"⟩ := ⟨Or.inl (tb_at 863 (by decide +kernel) (by decide +kernel)), tb_at 864 (by decide +kernel) (by decide +kernel), tb_at 865 (by decide +kernel) (by decide +kernel)⟩
theorem il_LW_36 : ILinkO "ParishBoardsLaw" 36 ⟨"java/lang/StringBuilder", "<init>", "()V"⟩ := ⟨Or.inl (tb_at 1389 (by decide +kernel) (by decide +kernel)), tb_at 1390 (by decide +kernel) (by decide +kernel), rfl⟩
theorem vl_LW_39 : VLinkO "ParishBoardsLaw" 39 "java/lang/StringBuilder" ⟨"java/lang/StringBuilder", "append", "(Ljava/lang/String;)Ljava/lang/StringBuilder;"⟩ := ⟨Or.inl (tb_at 1243 (by decide +kernel) (by decide +kernel)), tb_at 1244 (by decide +kernel) (by decide +kernel), tb_at 1245 (by decide +kernel) (by decide +kernel)⟩
theorem vl_LW_43 : VLinkO "ParishBoardsLaw" 43 "java/lang/StringBuilder" ⟨"java/lang/StringBuilder", "append", "(I)Ljava/lang/StringBuilder;"⟩ := ⟨Or.inl (tb_at 1351 (by decide +kernel) (by decide +kernel)), tb_at 1352 (by decide +kernel) (by decide +kernel), tb_at 1353 (by decide +kernel) (by decide +kernel)⟩
theorem vl_LW_48 : VLinkO "ParishBoardsLaw" 48 "java/lang/StringBuilder" ⟨"java/lang/StringBuilder", "toString", "()Ljava/lang/String;"⟩ := ⟨Or.inl (tb_at 1410 (by decide +kernel) (by decide +kernel)), tb_at 1411 (by decide +kernel) (by decide +kernel), tb_at 1412 (by decide +kernel) (by decide +kernel)⟩
theorem il_LW_82 : ILinkO "ParishBoardsLaw" 82 ⟨"ParishBoardsLaw$Sim", "<init>", "()V"⟩ := ⟨Or.inr ⟨"ParishBoardsLaw", tb_at 1176 (by decide +kernel) (by decide +kernel)⟩, tb_at 1177 (by decide +kernel) (by decide +kernel), rfl⟩
theorem sl_LW_83 : SLinkO "ParishBoardsLaw" 83 ⟨"ParishBoardsLaw", "cell", "([II)I"⟩ := ⟨Or.inl (tb_at 764 (by decide +kernel) (by decide +kernel)), tb_at 765 (by decide +kernel) (by decide +kernel)⟩
theorem sl_LW_89 : SLinkO "ParishBoardsLaw" 89 ⟨"ParishBoardsLaw", "below", "(II)I"⟩ := ⟨Or.inl (tb_at 760 (by decide +kernel) (by decide +kernel)), tb_at 761 (by decide +kernel) (by decide +kernel)⟩
theorem vl_LW_93 : VLinkO "ParishBoardsLaw" 93 "ParishBoardsLaw$Sim" ⟨"ParishBoardsLaw$Sim", "begin", "(II)V"⟩ := ⟨Or.inl (tb_at 1237 (by decide +kernel) (by decide +kernel)), tb_at 1238 (by decide +kernel) (by decide +kernel), tb_at 1239 (by decide +kernel) (by decide +kernel)⟩
theorem sl_LW_107 : SLinkO "ParishBoardsLaw" 107 ⟨"ParishBoardsLaw$Sim", "with", "([[I[I)[[I"⟩ := ⟨Or.inl (tb_at 1378 (by decide +kernel) (by decide +kernel)), tb_at 1379 (by decide +kernel) (by decide +kernel)⟩
theorem sl_LW_144 : SLinkO "ParishBoardsLaw" 144 ⟨"ParishBoardsLaw", "sum", "([I)Ljava/lang/String;"⟩ := ⟨Or.inl (tb_at 1477 (by decide +kernel) (by decide +kernel)), tb_at 1478 (by decide +kernel) (by decide +kernel)⟩
theorem sl_LW_151 : SLinkO "ParishBoardsLaw" 151 ⟨"ParishBoardsLaw", "test", "([I)Ljava/lang/String;"⟩ := ⟨Or.inl (tb_at 1486 (by decide +kernel) (by decide +kernel)), tb_at 1487 (by decide +kernel) (by decide +kernel)⟩
theorem vl_LW_164 : VLinkO "ParishBoardsLaw" 164 "ParishBoardsLaw$Sim" ⟨"ParishBoardsLaw$Sim", "write", "(III)I"⟩ := ⟨Or.inl (tb_at 1505 (by decide +kernel) (by decide +kernel)), tb_at 1506 (by decide +kernel) (by decide +kernel), tb_at 1507 (by decide +kernel) (by decide +kernel)⟩
theorem vl_LW_167 : VLinkO "ParishBoardsLaw" 167 "ParishBoards" ⟨"ParishBoards", "write", "(III)I"⟩ := ⟨Or.inl (tb_at 1522 (by decide +kernel) (by decide +kernel)), tb_at 1523 (by decide +kernel) (by decide +kernel), tb_at 1524 (by decide +kernel) (by decide +kernel)⟩
theorem vl_LW_168 : VLinkO "ParishBoardsLaw" 168 "ParishBoardsLaw$Sim" ⟨"ParishBoardsLaw$Sim", "note", "(III)I"⟩ := ⟨Or.inl (tb_at 1550 (by decide +kernel) (by decide +kernel)), tb_at 1551 (by decide +kernel) (by decide +kernel), tb_at 1552 (by decide +kernel) (by decide +kernel)⟩
theorem vl_LW_170 : VLinkO "ParishBoardsLaw" 170 "ParishBoards" ⟨"ParishBoards", "note", "(III)I"⟩ := ⟨Or.inl (tb_at 1554 (by decide +kernel) (by decide +kernel)), tb_at 1555 (by decide +kernel) (by decide +kernel), tb_at 1556 (by decide +kernel) (by decide +kernel)⟩
theorem vl_LW_171 : VLinkO "ParishBoardsLaw" 171 "ParishBoardsLaw$Sim" ⟨"ParishBoardsLaw$Sim", "merge", "(III)I"⟩ := ⟨Or.inl (tb_at 1587 (by decide +kernel) (by decide +kernel)), tb_at 1588 (by decide +kernel) (by decide +kernel), tb_at 1589 (by decide +kernel) (by decide +kernel)⟩
theorem vl_LW_173 : VLinkO "ParishBoardsLaw" 173 "ParishBoards" ⟨"ParishBoards", "merge", "(III)I"⟩ := ⟨Or.inl (tb_at 1593 (by decide +kernel) (by decide +kernel)), tb_at 1594 (by decide +kernel) (by decide +kernel), tb_at 1595 (by decide +kernel) (by decide +kernel)⟩
theorem vl_LW_174 : VLinkO "ParishBoardsLaw" 174 "ParishBoardsLaw$Sim" ⟨"ParishBoardsLaw$Sim", "send", "(I)I"⟩ := ⟨Or.inl (tb_at 1609 (by decide +kernel) (by decide +kernel)), tb_at 1610 (by decide +kernel) (by decide +kernel), tb_at 1611 (by decide +kernel) (by decide +kernel)⟩
theorem vl_LW_177 : VLinkO "ParishBoardsLaw" 177 "ParishBoards" ⟨"ParishBoards", "send", "(I)I"⟩ := ⟨Or.inl (tb_at 1614 (by decide +kernel) (by decide +kernel)), tb_at 1615 (by decide +kernel) (by decide +kernel), tb_at 1616 (by decide +kernel) (by decide +kernel)⟩
theorem vl_LW_178 : VLinkO "ParishBoardsLaw" 178 "ParishBoards" ⟨"ParishBoards", "setDays", "(II)I"⟩ := ⟨Or.inl (tb_at 1623 (by decide +kernel) (by decide +kernel)), tb_at 1624 (by decide +kernel) (by decide +kernel), tb_at 1625 (by decide +kernel) (by decide +kernel)⟩
theorem vl_LW_184 : VLinkO "ParishBoardsLaw" 184 "ParishBoardsLaw$Sim" ⟨"ParishBoardsLaw$Sim", "pass", "(I)LParishBoardsLaw$Sim;"⟩ := ⟨Or.inl (tb_at 1628 (by decide +kernel) (by decide +kernel)), tb_at 1629 (by decide +kernel) (by decide +kernel), tb_at 1630 (by decide +kernel) (by decide +kernel)⟩
theorem vl_LW_188 : VLinkO "ParishBoardsLaw" 188 "ParishBoards" ⟨"ParishBoards", "pass", "(I)I"⟩ := ⟨Or.inl (tb_at 1657 (by decide +kernel) (by decide +kernel)), tb_at 1658 (by decide +kernel) (by decide +kernel), tb_at 1659 (by decide +kernel) (by decide +kernel)⟩
theorem vl_LW_195 : VLinkO "ParishBoardsLaw" 195 "ParishBoards" ⟨"ParishBoards", "count", "(I)I"⟩ := ⟨Or.inl (tb_at 480 (by decide +kernel) (by decide +kernel)), tb_at 481 (by decide +kernel) (by decide +kernel), tb_at 482 (by decide +kernel) (by decide +kernel)⟩
theorem sl_LW_198 : SLinkO "ParishBoardsLaw" 198 ⟨"ParishBoardsLaw", "list", "([ILjava/lang/StringBuilder;)LParishBoardsLaw$Sim;"⟩ := ⟨Or.inl (tb_at 1171 (by decide +kernel) (by decide +kernel)), tb_at 1172 (by decide +kernel) (by decide +kernel)⟩
theorem il_LW_202 : ILinkO "ParishBoardsLaw" 202 ⟨"ParishBoards", "<init>", "()V"⟩ := ⟨Or.inl (tb_at 97 (by decide +kernel) (by decide +kernel)), tb_at 98 (by decide +kernel) (by decide +kernel), rfl⟩
theorem sl_LW_203 : SLinkO "ParishBoardsLaw" 203 ⟨"ParishBoardsLaw", "taught", "(LParishBoards;Ljava/lang/String;)I"⟩ := ⟨Or.inl (tb_at 768 (by decide +kernel) (by decide +kernel)), tb_at 769 (by decide +kernel) (by decide +kernel)⟩
theorem sl_LW_207 : SLinkO "ParishBoardsLaw" 207 ⟨"ParishBoardsLaw", "act", "(LParishBoards;LParishBoardsLaw$Sim;I)Z"⟩ := ⟨Or.inl (tb_at 1501 (by decide +kernel) (by decide +kernel)), tb_at 1502 (by decide +kernel) (by decide +kernel)⟩
theorem vl_LW_211 : VLinkO "ParishBoardsLaw" 211 "ParishBoards" ⟨"ParishBoards", "digest", "()J"⟩ := ⟨Or.inl (tb_at 688 (by decide +kernel) (by decide +kernel)), tb_at 689 (by decide +kernel) (by decide +kernel), tb_at 690 (by decide +kernel) (by decide +kernel)⟩
theorem vl_LW_215 : VLinkO "ParishBoardsLaw" 215 "ParishBoards" ⟨"ParishBoards", "knows", "(II)I"⟩ := ⟨Or.inl (tb_at 612 (by decide +kernel) (by decide +kernel)), tb_at 613 (by decide +kernel) (by decide +kernel), tb_at 614 (by decide +kernel) (by decide +kernel)⟩
theorem vl_LW_218 : VLinkO "ParishBoardsLaw" 218 "ParishBoards" ⟨"ParishBoards", "parish", "(II)I"⟩ := ⟨Or.inl (tb_at 591 (by decide +kernel) (by decide +kernel)), tb_at 592 (by decide +kernel) (by decide +kernel), tb_at 593 (by decide +kernel) (by decide +kernel)⟩
theorem vl_LW_221 : VLinkO "ParishBoardsLaw" 221 "ParishBoardsLaw$Sim" ⟨"ParishBoardsLaw$Sim", "shows", "(II)[I"⟩ := ⟨Or.inl (tb_at 710 (by decide +kernel) (by decide +kernel)), tb_at 711 (by decide +kernel) (by decide +kernel), tb_at 712 (by decide +kernel) (by decide +kernel)⟩
theorem vl_LW_225 : VLinkO "ParishBoardsLaw" 225 "ParishBoards" ⟨"ParishBoards", "shown", "(III)I"⟩ := ⟨Or.inl (tb_at 652 (by decide +kernel) (by decide +kernel)), tb_at 653 (by decide +kernel) (by decide +kernel), tb_at 654 (by decide +kernel) (by decide +kernel)⟩
theorem vl_LW_228 : VLinkO "ParishBoardsLaw" 228 "ParishBoards" ⟨"ParishBoards", "sheet", "(II)I"⟩ := ⟨Or.inl (tb_at 617 (by decide +kernel) (by decide +kernel)), tb_at 618 (by decide +kernel) (by decide +kernel), tb_at 619 (by decide +kernel) (by decide +kernel)⟩
theorem vl_LW_231 : VLinkO "ParishBoardsLaw" 231 "ParishBoards" ⟨"ParishBoards", "stamp", "(II)I"⟩ := ⟨Or.inl (tb_at 647 (by decide +kernel) (by decide +kernel)), tb_at 648 (by decide +kernel) (by decide +kernel), tb_at 649 (by decide +kernel) (by decide +kernel)⟩
theorem vl_LW_234 : VLinkO "ParishBoardsLaw" 234 "ParishBoards" ⟨"ParishBoards", "compare", "(II)I"⟩ := ⟨Or.inl (tb_at 666 (by decide +kernel) (by decide +kernel)), tb_at 667 (by decide +kernel) (by decide +kernel), tb_at 668 (by decide +kernel) (by decide +kernel)⟩
theorem vl_LW_237 : VLinkO "ParishBoardsLaw" 237 "ParishBoards" ⟨"ParishBoards", "mean", "()D"⟩ := ⟨Or.inl (tb_at 680 (by decide +kernel) (by decide +kernel)), tb_at 681 (by decide +kernel) (by decide +kernel), tb_at 682 (by decide +kernel) (by decide +kernel)⟩
theorem vl_LW_242 : VLinkO "ParishBoardsLaw" 242 "ParishBoards" ⟨"ParishBoards", "missed", "()I"⟩ := ⟨Or.inl (tb_at 675 (by decide +kernel) (by decide +kernel)), tb_at 676 (by decide +kernel) (by decide +kernel), tb_at 677 (by decide +kernel) (by decide +kernel)⟩
theorem vl_LW_245 : VLinkO "ParishBoardsLaw" 245 "ParishBoardsLaw$Sim" ⟨"ParishBoardsLaw$Sim", "isSame", "(LParishBoards;)Z"⟩ := ⟨Or.inl (tb_at 714 (by decide +kernel) (by decide +kernel)), tb_at 715 (by decide +kernel) (by decide +kernel), tb_at 716 (by decide +kernel) (by decide +kernel)⟩
theorem ol_SI_1 : Cond.methodLink "ParishBoardsLaw$Sim" 1 Lib.objectInit ∈ tb := tb_at 1179 (by decide +kernel) (by decide +kernel)
theorem cn_SI_47 : Cond.methodLink "ParishBoardsLaw$Sim" 47 ⟨"[Z", "clone", "()Ljava/lang/Object;"⟩ ∈ tb := tb_at 1518 (by decide +kernel) (by decide +kernel)
theorem vl_SI_72 : VLinkO "ParishBoardsLaw$Sim" 72 "ParishBoardsLaw$Sim" ⟨"ParishBoardsLaw$Sim", "shows", "(II)[I"⟩ := ⟨Or.inl (tb_at 726 (by decide +kernel) (by decide +kernel)), tb_at 711 (by decide +kernel) (by decide +kernel), tb_at 712 (by decide +kernel) (by decide +kernel)⟩
theorem sl_SI_76 : SLinkO "ParishBoardsLaw$Sim" 76 ⟨"ParishBoardsLaw$Sim", "with", "([[I[I)[[I"⟩ := ⟨Or.inl (tb_at 1517 (by decide +kernel) (by decide +kernel)), tb_at 1379 (by decide +kernel) (by decide +kernel)⟩
theorem sl_SI_80 : SLinkO "ParishBoardsLaw$Sim" 80 ⟨"java/lang/Math", "min", "(II)I"⟩ := ⟨Or.inl (tb_at 1591 (by decide +kernel) (by decide +kernel)), tb_at 1285 (by decide +kernel) (by decide +kernel)⟩
theorem sl_SI_86 : SLinkO "ParishBoardsLaw$Sim" 86 ⟨"java/lang/Math", "max", "(II)I"⟩ := ⟨Or.inl (tb_at 1592 (by decide +kernel) (by decide +kernel)), tb_at 1267 (by decide +kernel) (by decide +kernel)⟩
theorem vl_SI_89 : VLinkO "ParishBoardsLaw$Sim" 89 "ParishBoardsLaw$Sim" ⟨"ParishBoardsLaw$Sim", "marks", "(II)I"⟩ := ⟨Or.inl (tb_at 1509 (by decide +kernel) (by decide +kernel)), tb_at 1510 (by decide +kernel) (by decide +kernel), tb_at 1511 (by decide +kernel) (by decide +kernel)⟩
theorem vl_SI_92 : VLinkO "ParishBoardsLaw$Sim" 92 "ParishBoardsLaw$Sim" ⟨"ParishBoardsLaw$Sim", "make", "(IIIII)I"⟩ := ⟨Or.inl (tb_at 1513 (by decide +kernel) (by decide +kernel)), tb_at 1514 (by decide +kernel) (by decide +kernel), tb_at 1515 (by decide +kernel) (by decide +kernel)⟩
theorem ml_SI_96 : Cond.methodLink "ParishBoardsLaw$Sim" 96 arraycopyName ∈ tb := tb_at 1613 (by decide +kernel) (by decide +kernel)
theorem sl_SI_102 : SLinkO "ParishBoardsLaw$Sim" 102 ⟨"ParishBoardsLaw$Sim", "many", "([Z)I"⟩ := ⟨Or.inl (tb_at 723 (by decide +kernel) (by decide +kernel)), tb_at 724 (by decide +kernel) (by decide +kernel)⟩
theorem sl_SI_106 : SLinkO "ParishBoardsLaw$Sim" 106 ⟨"java/lang/Integer", "bitCount", "(I)I"⟩ := ⟨Or.inl (tb_at 1640 (by decide +kernel) (by decide +kernel)), tb_at 1582 (by decide +kernel) (by decide +kernel)⟩
theorem vl_SI_112 : VLinkO "ParishBoardsLaw$Sim" 112 "ParishBoardsLaw$Sim" ⟨"ParishBoardsLaw$Sim", "send", "(I)I"⟩ := ⟨Or.inl (tb_at 1645 (by decide +kernel) (by decide +kernel)), tb_at 1610 (by decide +kernel) (by decide +kernel), tb_at 1611 (by decide +kernel) (by decide +kernel)⟩
theorem vl_SI_115 : VLinkO "ParishBoardsLaw$Sim" 115 "ParishBoardsLaw$Sim" ⟨"ParishBoardsLaw$Sim", "merge", "(III)I"⟩ := ⟨Or.inl (tb_at 1646 (by decide +kernel) (by decide +kernel)), tb_at 1588 (by decide +kernel) (by decide +kernel), tb_at 1589 (by decide +kernel) (by decide +kernel)⟩
theorem vl_SI_119 : VLinkO "ParishBoardsLaw$Sim" 119 "ParishBoardsLaw$Sim" ⟨"ParishBoardsLaw$Sim", "write", "(III)I"⟩ := ⟨Or.inl (tb_at 1647 (by decide +kernel) (by decide +kernel)), tb_at 1506 (by decide +kernel) (by decide +kernel), tb_at 1507 (by decide +kernel) (by decide +kernel)⟩
theorem vl_SI_122 : VLinkO "ParishBoardsLaw$Sim" 122 "ParishBoardsLaw$Sim" ⟨"ParishBoardsLaw$Sim", "note", "(III)I"⟩ := ⟨Or.inl (tb_at 1648 (by decide +kernel) (by decide +kernel)), tb_at 1551 (by decide +kernel) (by decide +kernel), tb_at 1552 (by decide +kernel) (by decide +kernel)⟩
theorem vl_SI_125 : VLinkO "ParishBoardsLaw$Sim" 125 "ParishBoardsLaw$Sim" ⟨"ParishBoardsLaw$Sim", "holds", "([I)Z"⟩ := ⟨Or.inl (tb_at 1636 (by decide +kernel) (by decide +kernel)), tb_at 1638 (by decide +kernel) (by decide +kernel), tb_at 51 (by decide +kernel) (by decide +kernel)⟩
theorem vl_SI_129 : VLinkO "ParishBoardsLaw$Sim" 129 "ParishBoardsLaw$Sim" ⟨"ParishBoardsLaw$Sim", "does", "([I)Z"⟩ := ⟨Or.inl (tb_at 1641 (by decide +kernel) (by decide +kernel)), tb_at 1643 (by decide +kernel) (by decide +kernel), tb_at 52 (by decide +kernel) (by decide +kernel)⟩
theorem vl_SI_132 : VLinkO "ParishBoardsLaw$Sim" 132 "ParishBoardsLaw$Sim" ⟨"ParishBoardsLaw$Sim", "canHang", "(II)Z"⟩ := ⟨Or.inl (tb_at 1649 (by decide +kernel) (by decide +kernel)), tb_at 1651 (by decide +kernel) (by decide +kernel), tb_at 53 (by decide +kernel) (by decide +kernel)⟩
theorem vl_SI_136 : VLinkO "ParishBoardsLaw$Sim" 136 "ParishBoardsLaw$Sim" ⟨"ParishBoardsLaw$Sim", "hang", "(II)V"⟩ := ⟨Or.inl (tb_at 1653 (by decide +kernel) (by decide +kernel)), tb_at 1655 (by decide +kernel) (by decide +kernel), tb_at 54 (by decide +kernel) (by decide +kernel)⟩
theorem vl_SI_140 : VLinkO "ParishBoardsLaw$Sim" 140 "ParishBoardsLaw$Sim" ⟨"ParishBoardsLaw$Sim", "pass", "()V"⟩ := ⟨Or.inl (tb_at 1632 (by decide +kernel) (by decide +kernel)), tb_at 1633 (by decide +kernel) (by decide +kernel), tb_at 1634 (by decide +kernel) (by decide +kernel)⟩
theorem vl_SI_143 : VLinkO "ParishBoardsLaw$Sim" 143 "ParishBoards" ⟨"ParishBoards", "count", "(I)I"⟩ := ⟨Or.inl (tb_at 718 (by decide +kernel) (by decide +kernel)), tb_at 481 (by decide +kernel) (by decide +kernel), tb_at 482 (by decide +kernel) (by decide +kernel)⟩
theorem vl_SI_148 : VLinkO "ParishBoardsLaw$Sim" 148 "ParishBoardsLaw$Sim" ⟨"ParishBoardsLaw$Sim", "counted", "(I)I"⟩ := ⟨Or.inl (tb_at 719 (by decide +kernel) (by decide +kernel)), tb_at 720 (by decide +kernel) (by decide +kernel), tb_at 721 (by decide +kernel) (by decide +kernel)⟩
theorem vl_SI_151 : VLinkO "ParishBoardsLaw$Sim" 151 "ParishBoards" ⟨"ParishBoards", "shown", "(III)I"⟩ := ⟨Or.inl (tb_at 727 (by decide +kernel) (by decide +kernel)), tb_at 653 (by decide +kernel) (by decide +kernel), tb_at 654 (by decide +kernel) (by decide +kernel)⟩
theorem vl_SI_153 : VLinkO "ParishBoardsLaw$Sim" 153 "ParishBoards" ⟨"ParishBoards", "parish", "(II)I"⟩ := ⟨Or.inl (tb_at 728 (by decide +kernel) (by decide +kernel)), tb_at 592 (by decide +kernel) (by decide +kernel), tb_at 593 (by decide +kernel) (by decide +kernel)⟩
theorem vl_SI_156 : VLinkO "ParishBoardsLaw$Sim" 156 "ParishBoards" ⟨"ParishBoards", "knows", "(II)I"⟩ := ⟨Or.inl (tb_at 729 (by decide +kernel) (by decide +kernel)), tb_at 613 (by decide +kernel) (by decide +kernel), tb_at 614 (by decide +kernel) (by decide +kernel)⟩
theorem vl_SI_159 : VLinkO "ParishBoardsLaw$Sim" 159 "ParishBoardsLaw$Sim" ⟨"ParishBoardsLaw$Sim", "of", "([ZI)I"⟩ := ⟨Or.inl (tb_at 730 (by decide +kernel) (by decide +kernel)), tb_at 731 (by decide +kernel) (by decide +kernel), tb_at 732 (by decide +kernel) (by decide +kernel)⟩
theorem vl_SI_163 : VLinkO "ParishBoardsLaw$Sim" 163 "ParishBoards" ⟨"ParishBoards", "stamp", "(II)I"⟩ := ⟨Or.inl (tb_at 734 (by decide +kernel) (by decide +kernel)), tb_at 648 (by decide +kernel) (by decide +kernel), tb_at 649 (by decide +kernel) (by decide +kernel)⟩
theorem vl_SI_166 : VLinkO "ParishBoardsLaw$Sim" 166 "ParishBoards" ⟨"ParishBoards", "sheet", "(II)I"⟩ := ⟨Or.inl (tb_at 735 (by decide +kernel) (by decide +kernel)), tb_at 618 (by decide +kernel) (by decide +kernel), tb_at 619 (by decide +kernel) (by decide +kernel)⟩
theorem vl_SI_169 : VLinkO "ParishBoardsLaw$Sim" 169 "ParishBoards" ⟨"ParishBoards", "compare", "(II)I"⟩ := ⟨Or.inl (tb_at 736 (by decide +kernel) (by decide +kernel)), tb_at 667 (by decide +kernel) (by decide +kernel), tb_at 668 (by decide +kernel) (by decide +kernel)⟩
theorem vl_SI_172 : VLinkO "ParishBoardsLaw$Sim" 172 "ParishBoards" ⟨"ParishBoards", "road", "(II)I"⟩ := ⟨Or.inl (tb_at 737 (by decide +kernel) (by decide +kernel)), tb_at 738 (by decide +kernel) (by decide +kernel), tb_at 739 (by decide +kernel) (by decide +kernel)⟩
theorem vl_SI_175 : VLinkO "ParishBoardsLaw$Sim" 175 "ParishBoards" ⟨"ParishBoards", "missed", "()I"⟩ := ⟨Or.inl (tb_at 746 (by decide +kernel) (by decide +kernel)), tb_at 676 (by decide +kernel) (by decide +kernel), tb_at 677 (by decide +kernel) (by decide +kernel)⟩
theorem vl_SI_179 : VLinkO "ParishBoardsLaw$Sim" 179 "ParishBoards" ⟨"ParishBoards", "alike", "()Z"⟩ := ⟨Or.inl (tb_at 747 (by decide +kernel) (by decide +kernel)), tb_at 748 (by decide +kernel) (by decide +kernel), tb_at 749 (by decide +kernel) (by decide +kernel)⟩
theorem vl_SI_183 : VLinkO "ParishBoardsLaw$Sim" 183 "ParishBoards" ⟨"ParishBoards", "mean", "()D"⟩ := ⟨Or.inl (tb_at 755 (by decide +kernel) (by decide +kernel)), tb_at 681 (by decide +kernel) (by decide +kernel), tb_at 682 (by decide +kernel) (by decide +kernel)⟩
theorem vl_SI_187 : VLinkO "ParishBoardsLaw$Sim" 187 "ParishBoardsLaw$Sim" ⟨"ParishBoardsLaw$Sim", "allKnown", "()I"⟩ := ⟨Or.inl (tb_at 756 (by decide +kernel) (by decide +kernel)), tb_at 757 (by decide +kernel) (by decide +kernel), tb_at 758 (by decide +kernel) (by decide +kernel)⟩
theorem ol_AB_3 : Cond.methodLink "java/lang/AbstractStringBuilder" 3 Lib.objectInit ∈ tb := tb_at 1395 (by decide +kernel) (by decide +kernel)
theorem sl_AB_26 : SLinkO "java/lang/AbstractStringBuilder" 26 ⟨"java/lang/StringUTF16", "newBytesFor", "(I)[B"⟩ := ⟨Or.inl (tb_at 1323 (by decide +kernel) (by decide +kernel)), tb_at 1324 (by decide +kernel) (by decide +kernel)⟩
theorem vl_AB_32 : VLinkO "java/lang/AbstractStringBuilder" 32 "java/lang/String" ⟨"java/lang/String", "length", "()I"⟩ := ⟨Or.inl (tb_at 1309 (by decide +kernel) (by decide +kernel)), tb_at 792 (by decide +kernel) (by decide +kernel), tb_at 793 (by decide +kernel) (by decide +kernel)⟩
theorem vl_AB_40 : VLinkO "java/lang/AbstractStringBuilder" 40 "java/lang/String" ⟨"java/lang/String", "coder", "()B"⟩ := ⟨Or.inl (tb_at 1318 (by decide +kernel) (by decide +kernel)), tb_at 796 (by decide +kernel) (by decide +kernel), tb_at 797 (by decide +kernel) (by decide +kernel)⟩
theorem ux_AB_83 : NLinkO "java/lang/AbstractStringBuilder" 83 "java/lang/StringBuilder" ⟨"java/lang/AbstractStringBuilder", "isLatin1", "()Z"⟩ ⟨"java/lang/AbstractStringBuilder", "isLatin1", "()Z"⟩ 0 := ⟨tb_at 1288 (by decide +kernel) (by decide +kernel), tb_at 1290 (by decide +kernel) (by decide +kernel), tb_at 1291 (by decide +kernel) (by decide +kernel), tb_at 1289 (by decide +kernel) (by decide +kernel), tb_at 1289 (by decide +kernel) (by decide +kernel), by decide +kernel, ⟨_, _, _, mok_AB_isLatin1_aae02.1⟩⟩
theorem ux_AB_100 : NLinkO "java/lang/AbstractStringBuilder" 100 "java/lang/StringBuilder" ⟨"java/lang/AbstractStringBuilder", "ensureCapacityInternal", "(I)V"⟩ ⟨"java/lang/AbstractStringBuilder", "ensureCapacityInternal", "(I)V"⟩ 1 := ⟨tb_at 1255 (by decide +kernel) (by decide +kernel), tb_at 1739 (by decide +kernel) (by decide +kernel), tb_sb 0 rfl (by decide +kernel), tb_at 1257 (by decide +kernel) (by decide +kernel), tb_at 1257 (by decide +kernel) (by decide +kernel), by decide +kernel, ⟨_, _, _, mok_AB_ensureCapacityInternal_d00df.1⟩⟩
theorem ux_AB_104 : NLinkO "java/lang/AbstractStringBuilder" 104 "java/lang/StringBuilder" ⟨"java/lang/AbstractStringBuilder", "newCapacity", "(I)I"⟩ ⟨"java/lang/AbstractStringBuilder", "newCapacity", "(I)I"⟩ 1 := ⟨tb_at 1259 (by decide +kernel) (by decide +kernel), tb_at 1740 (by decide +kernel) (by decide +kernel), tb_sb 1 rfl (by decide +kernel), tb_at 1261 (by decide +kernel) (by decide +kernel), tb_at 1261 (by decide +kernel) (by decide +kernel), by decide +kernel, ⟨_, _, _, mok_AB_newCapacity_0f7a4.1⟩⟩
theorem sl_AB_108 : SLinkO "java/lang/AbstractStringBuilder" 108 ⟨"java/util/Arrays", "copyOf", "([BI)[B"⟩ := ⟨Or.inl (tb_at 1274 (by decide +kernel) (by decide +kernel)), tb_at 1275 (by decide +kernel) (by decide +kernel)⟩
theorem sl_AB_114 : SLinkO "java/lang/AbstractStringBuilder" 114 ⟨"jdk/internal/util/ArraysSupport", "newLength", "(III)I"⟩ := ⟨Or.inl (tb_at 1263 (by decide +kernel) (by decide +kernel)), tb_at 1264 (by decide +kernel) (by decide +kernel)⟩
theorem sl_AB_125 : SLinkO "java/lang/AbstractStringBuilder" 125 ⟨"java/lang/StringLatin1", "inflate", "([BI[BII)V"⟩ := ⟨Or.inl (tb_at 1330 (by decide +kernel) (by decide +kernel)), tb_at 1331 (by decide +kernel) (by decide +kernel)⟩
theorem ux_AB_208 : NLinkO "java/lang/AbstractStringBuilder" 208 "java/lang/StringBuilder" ⟨"java/lang/AbstractStringBuilder", "putStringAt", "(ILjava/lang/String;)V"⟩ ⟨"java/lang/AbstractStringBuilder", "putStringAt", "(ILjava/lang/String;)V"⟩ 2 := ⟨tb_at 1310 (by decide +kernel) (by decide +kernel), tb_at 1741 (by decide +kernel) (by decide +kernel), tb_sb 2 rfl (by decide +kernel), tb_at 1312 (by decide +kernel) (by decide +kernel), tb_at 1312 (by decide +kernel) (by decide +kernel), by decide +kernel, ⟨_, _, _, mok_AB_putStringAt_47b60.1⟩⟩
theorem sl_AB_226 : SLinkO "java/lang/AbstractStringBuilder" 226 ⟨"java/lang/StringUTF16", "putCharsAt", "([BICCCC)I"⟩ := ⟨Or.inl (tb_at 1294 (by decide +kernel) (by decide +kernel)), tb_at 1295 (by decide +kernel) (by decide +kernel)⟩
theorem sl_AB_245 : SLinkO "java/lang/AbstractStringBuilder" 245 ⟨"java/lang/Integer", "stringSize", "(I)I"⟩ := ⟨Or.inl (tb_at 1358 (by decide +kernel) (by decide +kernel)), tb_at 1359 (by decide +kernel) (by decide +kernel)⟩
theorem sl_AB_248 : SLinkO "java/lang/AbstractStringBuilder" 248 ⟨"java/lang/Integer", "getChars", "(II[B)I"⟩ := ⟨Or.inl (tb_at 1361 (by decide +kernel) (by decide +kernel)), tb_at 1362 (by decide +kernel) (by decide +kernel)⟩
theorem sl_AB_251 : SLinkO "java/lang/AbstractStringBuilder" 251 ⟨"java/lang/StringUTF16", "getChars", "(III[B)I"⟩ := ⟨Or.inl (tb_at 1368 (by decide +kernel) (by decide +kernel)), tb_at 1369 (by decide +kernel) (by decide +kernel)⟩
theorem ux_AB_397 : NLinkO "java/lang/AbstractStringBuilder" 397 "java/lang/StringBuilder" ⟨"java/lang/AbstractStringBuilder", "inflateIfNeededFor", "(Ljava/lang/String;)V"⟩ ⟨"java/lang/AbstractStringBuilder", "inflateIfNeededFor", "(Ljava/lang/String;)V"⟩ 1 := ⟨tb_at 1314 (by decide +kernel) (by decide +kernel), tb_at 1742 (by decide +kernel) (by decide +kernel), tb_sb 3 rfl (by decide +kernel), tb_at 1316 (by decide +kernel) (by decide +kernel), tb_at 1316 (by decide +kernel) (by decide +kernel), by decide +kernel, ⟨_, _, _, mok_AB_inflateIfNeededFor_a7421.1⟩⟩
theorem vl_AB_399 : VLinkO "java/lang/AbstractStringBuilder" 399 "java/lang/String" ⟨"java/lang/String", "getBytes", "([BIB)V"⟩ := ⟨Or.inl (tb_at 1345 (by decide +kernel) (by decide +kernel)), tb_at 1346 (by decide +kernel) (by decide +kernel), tb_at 1347 (by decide +kernel) (by decide +kernel)⟩
theorem ol_Str_1 : Cond.methodLink "java/lang/String" 1 Lib.objectInit ∈ tb := tb_at 1422 (by decide +kernel) (by decide +kernel)
theorem sl_Str_47 : SLinkO "java/lang/String" 47 ⟨"java/lang/StringUTF16", "coderFromArrayLen", "([BI)B"⟩ := ⟨Or.inl (tb_at 1453 (by decide +kernel) (by decide +kernel)), tb_at 1454 (by decide +kernel) (by decide +kernel)⟩
theorem sl_Str_54 : SLinkO "java/lang/String" 54 ⟨"java/util/Arrays", "copyOfRange", "([BII)[B"⟩ := ⟨Or.inl (tb_at 1437 (by decide +kernel) (by decide +kernel)), tb_at 1438 (by decide +kernel) (by decide +kernel)⟩
theorem sl_Str_106 : SLinkO "java/lang/String" 106 ⟨"java/lang/StringLatin1", "inflate", "([BI[BII)V"⟩ := ⟨Or.inl (tb_at 1350 (by decide +kernel) (by decide +kernel)), tb_at 1331 (by decide +kernel) (by decide +kernel)⟩
theorem ml_Str_212 : Cond.methodLink "java/lang/String" 212 arraycopyName ∈ tb := tb_at 1349 (by decide +kernel) (by decide +kernel)
theorem vl_Str_335 : VLinkO "java/lang/String" 335 "java/lang/String" ⟨"java/lang/String", "coder", "()B"⟩ := ⟨Or.inl (tb_at 795 (by decide +kernel) (by decide +kernel)), tb_at 796 (by decide +kernel) (by decide +kernel), tb_at 797 (by decide +kernel) (by decide +kernel)⟩
theorem il_Str_489 : ILinkO "java/lang/String" 489 ⟨"java/lang/String", "<init>", "(Ljava/lang/AbstractStringBuilder;Ljava/lang/Void;)V"⟩ := ⟨Or.inl (tb_at 1419 (by decide +kernel) (by decide +kernel)), tb_at 1420 (by decide +kernel) (by decide +kernel), rfl⟩
theorem vl_Str_492 : VLinkO "java/lang/String" 492 "java/lang/String" ⟨"java/lang/String", "isLatin1", "()Z"⟩ := ⟨Or.inl (tb_at 805 (by decide +kernel) (by decide +kernel)), tb_at 806 (by decide +kernel) (by decide +kernel), tb_at 807 (by decide +kernel) (by decide +kernel)⟩
theorem sl_Str_495 : SLinkO "java/lang/String" 495 ⟨"java/lang/StringLatin1", "charAt", "([BI)C"⟩ := ⟨Or.inl (tb_at 809 (by decide +kernel) (by decide +kernel)), tb_at 810 (by decide +kernel) (by decide +kernel)⟩
theorem sl_Str_498 : SLinkO "java/lang/String" 498 ⟨"java/lang/StringUTF16", "charAt", "([BI)C"⟩ := ⟨Or.inl (tb_at 820 (by decide +kernel) (by decide +kernel)), tb_at 821 (by decide +kernel) (by decide +kernel)⟩
theorem ux_Str_549 : NLinkO "java/lang/String" 549 "java/lang/StringBuilder" ⟨"java/lang/AbstractStringBuilder", "length", "()I"⟩ ⟨"java/lang/StringBuilder", "length", "()I"⟩ 0 := ⟨tb_at 1428 (by decide +kernel) (by decide +kernel), tb_at 1430 (by decide +kernel) (by decide +kernel), tb_at 1431 (by decide +kernel) (by decide +kernel), tb_at 1429 (by decide +kernel) (by decide +kernel), tb_at 1432 (by decide +kernel) (by decide +kernel), by decide +kernel, ⟨_, _, _, mok_AB_length_8abf5.1⟩⟩
theorem ux_Str_552 : NLinkO "java/lang/String" 552 "java/lang/StringBuilder" ⟨"java/lang/AbstractStringBuilder", "getValue", "()[B"⟩ ⟨"java/lang/AbstractStringBuilder", "getValue", "()[B"⟩ 0 := ⟨tb_at 1423 (by decide +kernel) (by decide +kernel), tb_at 1425 (by decide +kernel) (by decide +kernel), tb_at 1426 (by decide +kernel) (by decide +kernel), tb_at 1424 (by decide +kernel) (by decide +kernel), tb_at 1424 (by decide +kernel) (by decide +kernel), by decide +kernel, ⟨_, _, _, mok_AB_getValue_6d5f1.1⟩⟩
theorem ux_Str_1047 : NLinkO "java/lang/String" 1047 "java/lang/StringBuilder" ⟨"java/lang/AbstractStringBuilder", "isLatin1", "()Z"⟩ ⟨"java/lang/AbstractStringBuilder", "isLatin1", "()Z"⟩ 0 := ⟨tb_at 1436 (by decide +kernel) (by decide +kernel), tb_at 1290 (by decide +kernel) (by decide +kernel), tb_at 1291 (by decide +kernel) (by decide +kernel), tb_at 1289 (by decide +kernel) (by decide +kernel), tb_at 1289 (by decide +kernel) (by decide +kernel), by decide +kernel, ⟨_, _, _, mok_AB_isLatin1_aae02.1⟩⟩
theorem sl_Str_1051 : SLinkO "java/lang/String" 1051 ⟨"java/lang/StringUTF16", "compress", "([BII)[B"⟩ := ⟨Or.inl (tb_at 1446 (by decide +kernel) (by decide +kernel)), tb_at 1447 (by decide +kernel) (by decide +kernel)⟩
theorem sl_Str_1059 : SLinkO "java/lang/String" 1059 ⟨"jdk/internal/util/Preconditions", "checkIndex", "(IILjava/util/function/BiFunction;)I"⟩ := ⟨Or.inl (tb_at 817 (by decide +kernel) (by decide +kernel)), tb_at 818 (by decide +kernel) (by decide +kernel)⟩
theorem sl_Str_1062 : SLinkO "java/lang/String" 1062 ⟨"jdk/internal/util/Preconditions", "checkFromToIndex", "(IIILjava/util/function/BiFunction;)I"⟩ := ⟨Or.inl (tb_at 1303 (by decide +kernel) (by decide +kernel)), tb_at 1304 (by decide +kernel) (by decide +kernel)⟩
theorem sl_Str_1065 : SLinkO "java/lang/String" 1065 ⟨"jdk/internal/util/Preconditions", "checkFromIndexSize", "(IIILjava/util/function/BiFunction;)I"⟩ := ⟨Or.inl (tb_at 1342 (by decide +kernel) (by decide +kernel)), tb_at 1343 (by decide +kernel) (by decide +kernel)⟩
theorem il_SB_1 : ILinkO "java/lang/StringBuilder" 1 ⟨"java/lang/AbstractStringBuilder", "<init>", "(I)V"⟩ := ⟨Or.inl (tb_at 1392 (by decide +kernel) (by decide +kernel)), tb_at 1393 (by decide +kernel) (by decide +kernel), rfl⟩
theorem su_SB_29 : XLinkO "java/lang/StringBuilder" 29 ⟨"java/lang/AbstractStringBuilder", "append", "(Ljava/lang/String;)Ljava/lang/AbstractStringBuilder;"⟩ := ⟨tb_at 1247 (by decide +kernel) (by decide +kernel), tb_at 1737 (by decide +kernel) (by decide +kernel), tb_at 1248 (by decide +kernel) (by decide +kernel), tb_at 1249 (by decide +kernel) (by decide +kernel), by decide +kernel⟩
theorem su_SB_53 : XLinkO "java/lang/StringBuilder" 53 ⟨"java/lang/AbstractStringBuilder", "append", "(I)Ljava/lang/AbstractStringBuilder;"⟩ := ⟨tb_at 1355 (by decide +kernel) (by decide +kernel), tb_at 1744 (by decide +kernel) (by decide +kernel), tb_at 1248 (by decide +kernel) (by decide +kernel), tb_at 1356 (by decide +kernel) (by decide +kernel), by decide +kernel⟩
theorem il_SB_137 : ILinkO "java/lang/StringBuilder" 137 ⟨"java/lang/String", "<init>", "(Ljava/lang/StringBuilder;)V"⟩ := ⟨Or.inl (tb_at 1416 (by decide +kernel) (by decide +kernel)), tb_at 1417 (by decide +kernel) (by decide +kernel), rfl⟩
theorem su_SB_343 : XLinkO "java/lang/StringBuilder" 343 ⟨"java/lang/AbstractStringBuilder", "length", "()I"⟩ := ⟨tb_at 1434 (by decide +kernel) (by decide +kernel), tb_at 1430 (by decide +kernel) (by decide +kernel), tb_at 1248 (by decide +kernel) (by decide +kernel), tb_at 1429 (by decide +kernel) (by decide +kernel), by decide +kernel⟩
theorem sl_SL_9 : SLinkO "java/lang/StringLatin1" 9 ⟨"java/lang/String", "checkIndex", "(II)V"⟩ := ⟨Or.inl (tb_at 812 (by decide +kernel) (by decide +kernel)), tb_at 813 (by decide +kernel) (by decide +kernel)⟩
theorem sl_SL_240 : SLinkO "java/lang/StringLatin1" 240 ⟨"java/lang/StringUTF16", "inflate", "([BI[BII)V"⟩ := ⟨Or.inl (tb_at 1333 (by decide +kernel) (by decide +kernel)), tb_at 1334 (by decide +kernel) (by decide +kernel)⟩
theorem ml_Ars_150 : Cond.methodLink "java/util/Arrays" 150 arraycopyName ∈ tb := tb_at 1287 (by decide +kernel) (by decide +kernel)
theorem sl_Ars_304 : SLinkO "java/util/Arrays" 304 ⟨"java/lang/Math", "min", "(II)I"⟩ := ⟨Or.inl (tb_at 1284 (by decide +kernel) (by decide +kernel)), tb_at 1285 (by decide +kernel) (by decide +kernel)⟩
theorem cn_Ars_310 : Cond.methodLink "java/util/Arrays" 310 ⟨"[B", "clone", "()Ljava/lang/Object;"⟩ ∈ tb := tb_at 1277 (by decide +kernel) (by decide +kernel)
theorem sl_Ars_339 : SLinkO "java/util/Arrays" 339 ⟨"java/util/Arrays", "copyOfRangeByte", "([BII)[B"⟩ := ⟨Or.inl (tb_at 1440 (by decide +kernel) (by decide +kernel)), tb_at 1441 (by decide +kernel) (by decide +kernel)⟩
theorem sl_Ars_343 : SLinkO "java/util/Arrays" 343 ⟨"java/util/Arrays", "checkLength", "(II)V"⟩ := ⟨Or.inl (tb_at 1443 (by decide +kernel) (by decide +kernel)), tb_at 1444 (by decide +kernel) (by decide +kernel)⟩
theorem sl_Asu_194 : SLinkO "jdk/internal/util/ArraysSupport" 194 ⟨"java/lang/Math", "max", "(II)I"⟩ := ⟨Or.inl (tb_at 1266 (by decide +kernel) (by decide +kernel)), tb_at 1267 (by decide +kernel) (by decide +kernel)⟩
theorem sl_Asu_201 : SLinkO "jdk/internal/util/ArraysSupport" 201 ⟨"jdk/internal/util/ArraysSupport", "hugeLength", "(II)I"⟩ := ⟨Or.inl (tb_at 1270 (by decide +kernel) (by decide +kernel)), tb_at 1271 (by decide +kernel) (by decide +kernel)⟩
theorem ul_Cd_53 : ULinkO "ParishBoards$Code" 53 "ParishBoards$Kind" ⟨"ParishBoards$Kind", "ordinal", "()I"⟩ "java/lang/Enum" ⟨"java/lang/Enum", "ordinal", "()I"⟩ := ⟨tb_at 1678 (by decide +kernel) (by decide +kernel), tb_at 946 (by decide +kernel) (by decide +kernel), tb_at 948 (by decide +kernel) (by decide +kernel), tb_at 949 (by decide +kernel) (by decide +kernel), rfl, by decide +kernel, by decide +kernel⟩
theorem ul_Gr_57 : ULinkO "ParishBoards$Grammar" 57 "ParishBoards$Kind" ⟨"ParishBoards$Kind", "ordinal", "()I"⟩ "java/lang/Enum" ⟨"java/lang/Enum", "ordinal", "()I"⟩ := ⟨tb_at 945 (by decide +kernel) (by decide +kernel), tb_at 946 (by decide +kernel) (by decide +kernel), tb_at 948 (by decide +kernel) (by decide +kernel), tb_at 949 (by decide +kernel) (by decide +kernel), rfl, by decide +kernel, by decide +kernel⟩
theorem ul_Nm_58 : ULinkO "ParishBoards$Names" 58 "ParishBoards$Kind" ⟨"ParishBoards$Kind", "ordinal", "()I"⟩ "java/lang/Enum" ⟨"java/lang/Enum", "ordinal", "()I"⟩ := ⟨tb_at 1090 (by decide +kernel) (by decide +kernel), tb_at 946 (by decide +kernel) (by decide +kernel), tb_at 948 (by decide +kernel) (by decide +kernel), tb_at 949 (by decide +kernel) (by decide +kernel), rfl, by decide +kernel, by decide +kernel⟩
theorem ul_Wd_165 : ULinkO "ParishBoards$World" 165 "ParishBoards$Kind" ⟨"ParishBoards$Kind", "ordinal", "()I"⟩ "java/lang/Enum" ⟨"java/lang/Enum", "ordinal", "()I"⟩ := ⟨tb_at 1579 (by decide +kernel) (by decide +kernel), tb_at 946 (by decide +kernel) (by decide +kernel), tb_at 948 (by decide +kernel) (by decide +kernel), tb_at 949 (by decide +kernel) (by decide +kernel), rfl, by decide +kernel, by decide +kernel⟩
theorem cl_PB_20 : Cond.classLink "ParishBoards" 20 "ParishBoards$Plan" ∈ tb := tb_at 103 (by decide +kernel) (by decide +kernel)
theorem cl_PB_30 : Cond.classLink "ParishBoards" 30 "ParishBoards$Tokens" ∈ tb := tb_at 257 (by decide +kernel) (by decide +kernel)
theorem cl_PB_37 : Cond.classLink "ParishBoards" 37 "ParishBoards$Grammar" ∈ tb := tb_at 290 (by decide +kernel) (by decide +kernel)
theorem cl_PB_46 : Cond.classLink "ParishBoards" 46 "ParishBoards$Names" ∈ tb := tb_at 311 (by decide +kernel) (by decide +kernel)
theorem cl_PB_53 : Cond.classLink "ParishBoards" 53 "ParishBoards$World" ∈ tb := tb_at 343 (by decide +kernel) (by decide +kernel)
theorem cl_PB_65 : Cond.classLink "ParishBoards" 65 "java/lang/IllegalStateException" ∈ tb := tb_at 843 (by decide +kernel) (by decide +kernel)
theorem cl_PB_76 : Cond.classLink "ParishBoards" 76 "java/lang/IllegalArgumentException" ∈ tb := tb_at 775 (by decide +kernel) (by decide +kernel)
theorem cl_PB_105 : Cond.classLink "ParishBoards" 105 "java/lang/IndexOutOfBoundsException" ∈ tb := tb_at 484 (by decide +kernel) (by decide +kernel)
theorem cl_Cd_9 : Cond.classLink "ParishBoards$Code" 9 "ParishBoards$Kind" ∈ tb := tb_at 115 (by decide +kernel) (by decide +kernel)
theorem cl_Pl_9 : Cond.classLink "ParishBoards$Plan" 9 "ParishBoards$Code" ∈ tb := tb_at 109 (by decide +kernel) (by decide +kernel)
theorem cl_Pl_18 : Cond.classLink "ParishBoards$Plan" 18 "ParishBoards$Road" ∈ tb := tb_at 140 (by decide +kernel) (by decide +kernel)
theorem cl_Pl_24 : Cond.classLink "ParishBoards$Plan" 24 "ParishBoards$Order" ∈ tb := tb_at 142 (by decide +kernel) (by decide +kernel)
theorem cl_Tk_9 : Cond.classLink "ParishBoards$Tokens" 9 "ParishBoards$Kind" ∈ tb := tb_at 263 (by decide +kernel) (by decide +kernel)
theorem cl_Wd_9 : Cond.classLink "ParishBoards$World" 9 "ParishBoards$Sheet" ∈ tb := tb_at 349 (by decide +kernel) (by decide +kernel)
theorem cl_Wd_17 : Cond.classLink "ParishBoards$World" 17 "ParishBoards$Board" ∈ tb := tb_at 351 (by decide +kernel) (by decide +kernel)
theorem cl_Wd_23 : Cond.classLink "ParishBoards$World" 23 "ParishBoards$Road" ∈ tb := tb_at 353 (by decide +kernel) (by decide +kernel)
theorem cl_LW_10 : Cond.classLink "ParishBoardsLaw" 10 "ParishBoards" ∈ tb := tb_at 95 (by decide +kernel) (by decide +kernel)
theorem cl_LW_16 : Cond.classLink "ParishBoardsLaw" 16 "java/lang/String" ∈ tb := tb_at 1467 (by decide +kernel) (by decide +kernel)
theorem cl_LW_34 : Cond.classLink "ParishBoardsLaw" 34 "java/lang/StringBuilder" ∈ tb := tb_at 1387 (by decide +kernel) (by decide +kernel)
theorem cl_LW_80 : Cond.classLink "ParishBoardsLaw" 80 "ParishBoardsLaw$Sim" ∈ tb := tb_at 1174 (by decide +kernel) (by decide +kernel)
theorem cl_LW_121 : Cond.classLink "ParishBoardsLaw" 121 "[[Z" ∈ tb := tb_at 1386 (by decide +kernel) (by decide +kernel)
theorem cl_LW_190 : Cond.classLink "ParishBoardsLaw" 190 "java/lang/IllegalStateException" ∈ tb := tb_at 1504 (by decide +kernel) (by decide +kernel)
theorem cl_SI_7 : Cond.classLink "ParishBoardsLaw$Sim" 7 "[I" ∈ tb := tb_at 1180 (by decide +kernel) (by decide +kernel)
theorem cl_SI_15 : Cond.classLink "ParishBoardsLaw$Sim" 15 "[Z" ∈ tb := tb_at 1182 (by decide +kernel) (by decide +kernel)
theorem cl_SI_37 : Cond.classLink "ParishBoardsLaw$Sim" 37 "[[Z" ∈ tb := tb_at 1241 (by decide +kernel) (by decide +kernel)
theorem cl_SB_18 : Cond.classLink "java/lang/StringBuilder" 18 "java/lang/String" ∈ tb := tb_at 1414 (by decide +kernel) (by decide +kernel)
theorem cl_Ars_311 : Cond.classLink "java/util/Arrays" 311 "[B" ∈ tb := tb_at 1283 (by decide +kernel) (by decide +kernel)
theorem ao_Ki : Cond.arrayOver (.object "ParishBoards$Kind") ∈ tb := tb_at 116 (by decide +kernel) (by decide +kernel)
theorem ac_byte : Cond.arrayClass .byte ∈ tb := tb_at 138 (by decide +kernel) (by decide +kernel)
theorem ac_int : Cond.arrayClass .int ∈ tb := tb_at 139 (by decide +kernel) (by decide +kernel)
theorem ao_Rd : Cond.arrayOver (.object "ParishBoards$Road") ∈ tb := tb_at 141 (by decide +kernel) (by decide +kernel)
theorem ao_Od : Cond.arrayOver (.object "ParishBoards$Order") ∈ tb := tb_at 143 (by decide +kernel) (by decide +kernel)
theorem ac_long : Cond.arrayClass .long ∈ tb := tb_at 289 (by decide +kernel) (by decide +kernel)
theorem ao_Sh : Cond.arrayOver (.object "ParishBoards$Sheet") ∈ tb := tb_at 350 (by decide +kernel) (by decide +kernel)
theorem ao_Bd : Cond.arrayOver (.object "ParishBoards$Board") ∈ tb := tb_at 352 (by decide +kernel) (by decide +kernel)
theorem ac_boolean : Cond.arrayClass .boolean ∈ tb := tb_at 417 (by decide +kernel) (by decide +kernel)
theorem k_PB_270 : Cond.constantLong "ParishBoards" 270 (929) ∈ tb := tb_at 692 (by decide +kernel) (by decide +kernel)
theorem k_PB_292 : Cond.constantLong "ParishBoards" 292 (31) ∈ tb := tb_at 696 (by decide +kernel) (by decide +kernel)
theorem k_LW_7 : Cond.constant "ParishBoardsLaw" 7 (2147483647) ∈ tb := tb_at 763 (by decide +kernel) (by decide +kernel)
theorem k_LW_8 : Cond.constant "ParishBoardsLaw" 8 (790386105) ∈ tb := tb_at 767 (by decide +kernel) (by decide +kernel)
theorem k_Tk_108 : Cond.constantLong "ParishBoards$Tokens" 108 (10) ∈ tb := tb_at 920 (by decide +kernel) (by decide +kernel)
theorem k_Tk_110 : Cond.constantLong "ParishBoards$Tokens" 110 (37) ∈ tb := tb_at 925 (by decide +kernel) (by decide +kernel)
theorem k_Nm_112 : Cond.constantLong "ParishBoards$Names" 112 (9) ∈ tb := tb_at 1126 (by decide +kernel) (by decide +kernel)
theorem aa_int : Cond.arrayOver (.array .int) ∈ tb := tb_at 1181 (by decide +kernel) (by decide +kernel)
theorem aa_boolean : Cond.arrayOver (.array .boolean) ∈ tb := tb_at 1183 (by decide +kernel) (by decide +kernel)
theorem k_Asu_200 : Cond.constant "jdk/internal/util/ArraysSupport" 200 (2147483639) ∈ tb := tb_at 1269 (by decide +kernel) (by decide +kernel)
theorem k_AB_39 : Cond.constant "java/lang/AbstractStringBuilder" 39 (2147483647) ∈ tb := tb_at 1273 (by decide +kernel) (by decide +kernel)
theorem k_S16_20 : Cond.constant "java/lang/StringUTF16" 20 (1073741823) ∈ tb := tb_at 1329 (by decide +kernel) (by decide +kernel)
theorem ao_Str : Cond.arrayOver (.object "java/lang/String") ∈ tb := tb_at 1468 (by decide +kernel) (by decide +kernel)
theorem k_JI_265 : Cond.constant "java/lang/Integer" 265 (1431655765) ∈ tb := tb_at 1584 (by decide +kernel) (by decide +kernel)
theorem k_JI_266 : Cond.constant "java/lang/Integer" 266 (858993459) ∈ tb := tb_at 1585 (by decide +kernel) (by decide +kernel)
theorem k_JI_267 : Cond.constant "java/lang/Integer" 267 (252645135) ∈ tb := tb_at 1586 (by decide +kernel) (by decide +kernel)
theorem k_LW_241 : Cond.constant "ParishBoardsLaw" 241 (65535) ∈ tb := tb_at 1735 (by decide +kernel) (by decide +kernel)
theorem oi_1 : Cond.instanceMethod Lib.objectInit ∈ tb := tb_at 101 (by decide +kernel) (by decide +kernel)
theorem oi_2 : Cond.code Lib.objectInit ⟨#[0xb1]⟩ 1 none ∈ tb := tb_at 102 (by decide +kernel) (by decide +kernel)
theorem cz_nat : Cond.native ⟨"java/lang/Object", "clone", "()Ljava/lang/Object;"⟩ ∈ tb := tb_at 1279 (by decide +kernel) (by decide +kernel)
theorem cz_inst : Cond.instanceMethod ⟨"java/lang/Object", "clone", "()Ljava/lang/Object;"⟩ ∈ tb := tb_at 1280 (by decide +kernel) (by decide +kernel)
theorem cz_sameB : Cond.sameMethod "[B" "java/lang/Object" "clone" "()Ljava/lang/Object;" ∈ tb := tb_at 1278 (by decide +kernel) (by decide +kernel)
theorem cz_selB : Cond.selects "[B" ⟨"[B", "clone", "()Ljava/lang/Object;"⟩ ⟨"java/lang/Object", "clone", "()Ljava/lang/Object;"⟩ ∈ tb := tb_at 1281 (by decide +kernel) (by decide +kernel)
theorem cz_castB : Cond.castable "[B" "java/lang/Cloneable" ∈ lw_tbl := List.mem_of_getElem? (i := 1282) (by decide +kernel)
theorem cz_sameZ : Cond.sameMethod "[Z" "java/lang/Object" "clone" "()Ljava/lang/Object;" ∈ tb := tb_at 1519 (by decide +kernel) (by decide +kernel)
theorem cz_selZ : Cond.selects "[Z" ⟨"[Z", "clone", "()Ljava/lang/Object;"⟩ ⟨"java/lang/Object", "clone", "()Ljava/lang/Object;"⟩ ∈ tb := tb_at 1520 (by decide +kernel) (by decide +kernel)
theorem cz_castZ : Cond.castable "[Z" "java/lang/Cloneable" ∈ lw_tbl := List.mem_of_getElem? (i := 1521) (by decide +kernel)
theorem cp_1 : Cond.native arraycopyName ∈ tb := tb_at 1170 (by decide +kernel) (by decide +kernel)
theorem cp_2 : Cond.static arraycopyName ∈ tb := tb_at 1169 (by decide +kernel) (by decide +kernel)
theorem cp_3 : Cond.initialized "java/lang/System" ∈ tb := tb_at 71 (by decide +kernel) (by decide +kernel)
