/-! words -/
theorem ok_PB : CEok E_PB := by
  refine ⟨fun w hw => ?_, tb_at 156 (by decide +kernel) (by decide +kernel), by decide +kernel, by decide +kernel, tb_at 124 (by decide +kernel) (by decide +kernel)⟩
  obtain ⟨k, hk, rfl⟩ := List.mem_map.mp hw
  have hk : k < 10 := List.mem_range.mp hk
  rcases (by omega : k = 0 ∨ k = 1 ∨ k = 2 ∨ k = 3 ∨ k = 4 ∨ k = 5 ∨ k = 6 ∨ k = 7 ∨ k = 8 ∨ k = 9) with rfl | rfl | rfl | rfl | rfl | rfl | rfl | rfl | rfl | rfl
  · exact tb_at 519 (by decide +kernel) (by decide +kernel)
  · exact tb_at 521 (by decide +kernel) (by decide +kernel)
  · exact tb_at 523 (by decide +kernel) (by decide +kernel)
  · exact tb_at 525 (by decide +kernel) (by decide +kernel)
  · exact tb_at 527 (by decide +kernel) (by decide +kernel)
  · exact tb_at 529 (by decide +kernel) (by decide +kernel)
  · exact tb_at 531 (by decide +kernel) (by decide +kernel)
  · exact tb_at 533 (by decide +kernel) (by decide +kernel)
  · exact tb_at 535 (by decide +kernel) (by decide +kernel)
  · exact tb_at 537 (by decide +kernel) (by decide +kernel)
theorem ok_Bd : CEok E_Bd := by
  refine ⟨fun w hw => ?_, tb_at 451 (by decide +kernel) (by decide +kernel), by decide +kernel, by decide +kernel, tb_at 136 (by decide +kernel) (by decide +kernel)⟩
  obtain ⟨k, hk, rfl⟩ := List.mem_map.mp hw
  have hk : k < 4 := List.mem_range.mp hk
  rcases (by omega : k = 0 ∨ k = 1 ∨ k = 2 ∨ k = 3) with rfl | rfl | rfl | rfl
  · exact tb_at 468 (by decide +kernel) (by decide +kernel)
  · exact tb_at 470 (by decide +kernel) (by decide +kernel)
  · exact tb_at 472 (by decide +kernel) (by decide +kernel)
  · exact tb_at 474 (by decide +kernel) (by decide +kernel)
theorem ok_Cd : CEok E_Cd := by
  refine ⟨fun w hw => ?_, tb_at 170 (by decide +kernel) (by decide +kernel), by decide +kernel, by decide +kernel, tb_at 126 (by decide +kernel) (by decide +kernel)⟩
  obtain ⟨k, hk, rfl⟩ := List.mem_map.mp hw
  have hk : k < 6 := List.mem_range.mp hk
  rcases (by omega : k = 0 ∨ k = 1 ∨ k = 2 ∨ k = 3 ∨ k = 4 ∨ k = 5) with rfl | rfl | rfl | rfl | rfl | rfl
  · exact tb_at 185 (by decide +kernel) (by decide +kernel)
  · exact tb_at 187 (by decide +kernel) (by decide +kernel)
  · exact tb_at 189 (by decide +kernel) (by decide +kernel)
  · exact tb_at 191 (by decide +kernel) (by decide +kernel)
  · exact tb_at 193 (by decide +kernel) (by decide +kernel)
  · exact tb_at 195 (by decide +kernel) (by decide +kernel)
theorem ok_Gr : CEok E_Gr := by
  refine ⟨fun w hw => ?_, tb_at 351 (by decide +kernel) (by decide +kernel), by decide +kernel, by decide +kernel, tb_at 132 (by decide +kernel) (by decide +kernel)⟩
  obtain ⟨k, hk, rfl⟩ := List.mem_map.mp hw
  have hk : k < 4 := List.mem_range.mp hk
  rcases (by omega : k = 0 ∨ k = 1 ∨ k = 2 ∨ k = 3) with rfl | rfl | rfl | rfl
  · exact tb_at 362 (by decide +kernel) (by decide +kernel)
  · exact tb_at 364 (by decide +kernel) (by decide +kernel)
  · exact tb_at 366 (by decide +kernel) (by decide +kernel)
  · exact tb_at 368 (by decide +kernel) (by decide +kernel)
theorem ok_Nm : CEok E_Nm := by
  refine ⟨fun w hw => ?_, tb_at 372 (by decide +kernel) (by decide +kernel), by decide +kernel, by decide +kernel, tb_at 133 (by decide +kernel) (by decide +kernel)⟩
  obtain ⟨k, hk, rfl⟩ := List.mem_map.mp hw
  have hk : k < 8 := List.mem_range.mp hk
  rcases (by omega : k = 0 ∨ k = 1 ∨ k = 2 ∨ k = 3 ∨ k = 4 ∨ k = 5 ∨ k = 6 ∨ k = 7) with rfl | rfl | rfl | rfl | rfl | rfl | rfl | rfl
  · exact tb_at 386 (by decide +kernel) (by decide +kernel)
  · exact tb_at 388 (by decide +kernel) (by decide +kernel)
  · exact tb_at 390 (by decide +kernel) (by decide +kernel)
  · exact tb_at 392 (by decide +kernel) (by decide +kernel)
  · exact tb_at 394 (by decide +kernel) (by decide +kernel)
  · exact tb_at 396 (by decide +kernel) (by decide +kernel)
  · exact tb_at 398 (by decide +kernel) (by decide +kernel)
  · exact tb_at 400 (by decide +kernel) (by decide +kernel)
theorem ok_Od : CEok E_Od := by
  refine ⟨fun w hw => ?_, tb_at 231 (by decide +kernel) (by decide +kernel), by decide +kernel, by decide +kernel, tb_at 128 (by decide +kernel) (by decide +kernel)⟩
  obtain ⟨k, hk, rfl⟩ := List.mem_map.mp hw
  have hk : k < 9 := List.mem_range.mp hk
  rcases (by omega : k = 0 ∨ k = 1 ∨ k = 2 ∨ k = 3 ∨ k = 4 ∨ k = 5 ∨ k = 6 ∨ k = 7 ∨ k = 8) with rfl | rfl | rfl | rfl | rfl | rfl | rfl | rfl | rfl
  · exact tb_at 261 (by decide +kernel) (by decide +kernel)
  · exact tb_at 263 (by decide +kernel) (by decide +kernel)
  · exact tb_at 265 (by decide +kernel) (by decide +kernel)
  · exact tb_at 267 (by decide +kernel) (by decide +kernel)
  · exact tb_at 269 (by decide +kernel) (by decide +kernel)
  · exact tb_at 271 (by decide +kernel) (by decide +kernel)
  · exact tb_at 273 (by decide +kernel) (by decide +kernel)
  · exact tb_at 275 (by decide +kernel) (by decide +kernel)
  · exact tb_at 277 (by decide +kernel) (by decide +kernel)
theorem ok_Pl : CEok E_Pl := by
  refine ⟨fun w hw => ?_, tb_at 164 (by decide +kernel) (by decide +kernel), by decide +kernel, by decide +kernel, tb_at 125 (by decide +kernel) (by decide +kernel)⟩
  obtain ⟨k, hk, rfl⟩ := List.mem_map.mp hw
  have hk : k < 7 := List.mem_range.mp hk
  rcases (by omega : k = 0 ∨ k = 1 ∨ k = 2 ∨ k = 3 ∨ k = 4 ∨ k = 5 ∨ k = 6) with rfl | rfl | rfl | rfl | rfl | rfl | rfl
  · exact tb_at 302 (by decide +kernel) (by decide +kernel)
  · exact tb_at 304 (by decide +kernel) (by decide +kernel)
  · exact tb_at 306 (by decide +kernel) (by decide +kernel)
  · exact tb_at 308 (by decide +kernel) (by decide +kernel)
  · exact tb_at 310 (by decide +kernel) (by decide +kernel)
  · exact tb_at 312 (by decide +kernel) (by decide +kernel)
  · exact tb_at 314 (by decide +kernel) (by decide +kernel)
theorem ok_Rd : CEok E_Rd := by
  refine ⟨fun w hw => ?_, tb_at 204 (by decide +kernel) (by decide +kernel), by decide +kernel, by decide +kernel, tb_at 127 (by decide +kernel) (by decide +kernel)⟩
  obtain ⟨k, hk, rfl⟩ := List.mem_map.mp hw
  have hk : k < 5 := List.mem_range.mp hk
  rcases (by omega : k = 0 ∨ k = 1 ∨ k = 2 ∨ k = 3 ∨ k = 4) with rfl | rfl | rfl | rfl | rfl
  · exact tb_at 220 (by decide +kernel) (by decide +kernel)
  · exact tb_at 222 (by decide +kernel) (by decide +kernel)
  · exact tb_at 224 (by decide +kernel) (by decide +kernel)
  · exact tb_at 226 (by decide +kernel) (by decide +kernel)
  · exact tb_at 228 (by decide +kernel) (by decide +kernel)
theorem ok_Sh : CEok E_Sh := by
  refine ⟨fun w hw => ?_, tb_at 414 (by decide +kernel) (by decide +kernel), by decide +kernel, by decide +kernel, tb_at 135 (by decide +kernel) (by decide +kernel)⟩
  obtain ⟨k, hk, rfl⟩ := List.mem_map.mp hw
  have hk : k < 7 := List.mem_range.mp hk
  rcases (by omega : k = 0 ∨ k = 1 ∨ k = 2 ∨ k = 3 ∨ k = 4 ∨ k = 5 ∨ k = 6) with rfl | rfl | rfl | rfl | rfl | rfl | rfl
  · exact tb_at 436 (by decide +kernel) (by decide +kernel)
  · exact tb_at 438 (by decide +kernel) (by decide +kernel)
  · exact tb_at 440 (by decide +kernel) (by decide +kernel)
  · exact tb_at 442 (by decide +kernel) (by decide +kernel)
  · exact tb_at 444 (by decide +kernel) (by decide +kernel)
  · exact tb_at 446 (by decide +kernel) (by decide +kernel)
  · exact tb_at 448 (by decide +kernel) (by decide +kernel)
theorem ok_Tk : CEok E_Tk := by
  refine ⟨fun w hw => ?_, tb_at 318 (by decide +kernel) (by decide +kernel), by decide +kernel, by decide +kernel, tb_at 131 (by decide +kernel) (by decide +kernel)⟩
  obtain ⟨k, hk, rfl⟩ := List.mem_map.mp hw
  have hk : k < 7 := List.mem_range.mp hk
  rcases (by omega : k = 0 ∨ k = 1 ∨ k = 2 ∨ k = 3 ∨ k = 4 ∨ k = 5 ∨ k = 6) with rfl | rfl | rfl | rfl | rfl | rfl | rfl
  · exact tb_at 334 (by decide +kernel) (by decide +kernel)
  · exact tb_at 336 (by decide +kernel) (by decide +kernel)
  · exact tb_at 338 (by decide +kernel) (by decide +kernel)
  · exact tb_at 340 (by decide +kernel) (by decide +kernel)
  · exact tb_at 342 (by decide +kernel) (by decide +kernel)
  · exact tb_at 344 (by decide +kernel) (by decide +kernel)
  · exact tb_at 346 (by decide +kernel) (by decide +kernel)
theorem ok_Wd : CEok E_Wd := by
  refine ⟨fun w hw => ?_, tb_at 404 (by decide +kernel) (by decide +kernel), by decide +kernel, by decide +kernel, tb_at 134 (by decide +kernel) (by decide +kernel)⟩
  obtain ⟨k, hk, rfl⟩ := List.mem_map.mp hw
  have hk : k < 8 := List.mem_range.mp hk
  rcases (by omega : k = 0 ∨ k = 1 ∨ k = 2 ∨ k = 3 ∨ k = 4 ∨ k = 5 ∨ k = 6 ∨ k = 7) with rfl | rfl | rfl | rfl | rfl | rfl | rfl | rfl
  · exact tb_at 492 (by decide +kernel) (by decide +kernel)
  · exact tb_at 494 (by decide +kernel) (by decide +kernel)
  · exact tb_at 496 (by decide +kernel) (by decide +kernel)
  · exact tb_at 498 (by decide +kernel) (by decide +kernel)
  · exact tb_at 500 (by decide +kernel) (by decide +kernel)
  · exact tb_at 502 (by decide +kernel) (by decide +kernel)
  · exact tb_at 504 (by decide +kernel) (by decide +kernel)
  · exact tb_at 506 (by decide +kernel) (by decide +kernel)
theorem ok_MM : CEok E_MM := by
  refine ⟨fun w hw => ?_, tb_at 1452 (by decide +kernel) (by decide +kernel), by decide +kernel, by decide +kernel, tb_at 137 (by decide +kernel) (by decide +kernel)⟩
  obtain ⟨k, hk, rfl⟩ := List.mem_map.mp hw
  have hk : k < 15 := List.mem_range.mp hk
  rcases (by omega : k = 0 ∨ k = 1 ∨ k = 2 ∨ k = 3 ∨ k = 4 ∨ k = 5 ∨ k = 6 ∨ k = 7 ∨ k = 8 ∨ k = 9 ∨ k = 10 ∨ k = 11 ∨ k = 12 ∨ k = 13 ∨ k = 14) with rfl | rfl | rfl | rfl | rfl | rfl | rfl | rfl | rfl | rfl | rfl | rfl | rfl | rfl | rfl
  · exact tb_at 1663 (by decide +kernel) (by decide +kernel)
  · exact tb_at 1665 (by decide +kernel) (by decide +kernel)
  · exact tb_at 1667 (by decide +kernel) (by decide +kernel)
  · exact tb_at 1669 (by decide +kernel) (by decide +kernel)
  · exact tb_at 1671 (by decide +kernel) (by decide +kernel)
  · exact tb_at 1673 (by decide +kernel) (by decide +kernel)
  · exact tb_at 1675 (by decide +kernel) (by decide +kernel)
  · exact tb_at 1677 (by decide +kernel) (by decide +kernel)
  · exact tb_at 1679 (by decide +kernel) (by decide +kernel)
  · exact tb_at 1681 (by decide +kernel) (by decide +kernel)
  · exact tb_at 1683 (by decide +kernel) (by decide +kernel)
  · exact tb_at 1685 (by decide +kernel) (by decide +kernel)
  · exact tb_at 1687 (by decide +kernel) (by decide +kernel)
  · exact tb_at 1689 (by decide +kernel) (by decide +kernel)
  · exact tb_at 1691 (by decide +kernel) (by decide +kernel)
theorem ok_MP : CEok E_MP := by
  refine ⟨fun w hw => ?_, tb_at 1458 (by decide +kernel) (by decide +kernel), by decide +kernel, by decide +kernel, tb_at 138 (by decide +kernel) (by decide +kernel)⟩
  obtain ⟨k, hk, rfl⟩ := List.mem_map.mp hw
  have hk : k < 19 := List.mem_range.mp hk
  rcases (by omega : k = 0 ∨ k = 1 ∨ k = 2 ∨ k = 3 ∨ k = 4 ∨ k = 5 ∨ k = 6 ∨ k = 7 ∨ k = 8 ∨ k = 9 ∨ k = 10 ∨ k = 11 ∨ k = 12 ∨ k = 13 ∨ k = 14 ∨ k = 15 ∨ k = 16 ∨ k = 17 ∨ k = 18) with rfl | rfl | rfl | rfl | rfl | rfl | rfl | rfl | rfl | rfl | rfl | rfl | rfl | rfl | rfl | rfl | rfl | rfl | rfl
  · exact tb_at 1508 (by decide +kernel) (by decide +kernel)
  · exact tb_at 1510 (by decide +kernel) (by decide +kernel)
  · exact tb_at 1512 (by decide +kernel) (by decide +kernel)
  · exact tb_at 1514 (by decide +kernel) (by decide +kernel)
  · exact tb_at 1516 (by decide +kernel) (by decide +kernel)
  · exact tb_at 1518 (by decide +kernel) (by decide +kernel)
  · exact tb_at 1520 (by decide +kernel) (by decide +kernel)
  · exact tb_at 1522 (by decide +kernel) (by decide +kernel)
  · exact tb_at 1524 (by decide +kernel) (by decide +kernel)
  · exact tb_at 1526 (by decide +kernel) (by decide +kernel)
  · exact tb_at 1528 (by decide +kernel) (by decide +kernel)
  · exact tb_at 1530 (by decide +kernel) (by decide +kernel)
  · exact tb_at 1532 (by decide +kernel) (by decide +kernel)
  · exact tb_at 1534 (by decide +kernel) (by decide +kernel)
  · exact tb_at 1536 (by decide +kernel) (by decide +kernel)
  · exact tb_at 1538 (by decide +kernel) (by decide +kernel)
  · exact tb_at 1540 (by decide +kernel) (by decide +kernel)
  · exact tb_at 1542 (by decide +kernel) (by decide +kernel)
  · exact tb_at 1544 (by decide +kernel) (by decide +kernel)
theorem ok_MS : CEok E_MS := by
  refine ⟨fun w hw => ?_, tb_at 1548 (by decide +kernel) (by decide +kernel), by decide +kernel, by decide +kernel, tb_at 139 (by decide +kernel) (by decide +kernel)⟩
  obtain ⟨k, hk, rfl⟩ := List.mem_map.mp hw
  have hk : k < 24 := List.mem_range.mp hk
  rcases (by omega : k = 0 ∨ k = 1 ∨ k = 2 ∨ k = 3 ∨ k = 4 ∨ k = 5 ∨ k = 6 ∨ k = 7 ∨ k = 8 ∨ k = 9 ∨ k = 10 ∨ k = 11 ∨ k = 12 ∨ k = 13 ∨ k = 14 ∨ k = 15 ∨ k = 16 ∨ k = 17 ∨ k = 18 ∨ k = 19 ∨ k = 20 ∨ k = 21 ∨ k = 22 ∨ k = 23) with rfl | rfl | rfl | rfl | rfl | rfl | rfl | rfl | rfl | rfl | rfl | rfl | rfl | rfl | rfl | rfl | rfl | rfl | rfl | rfl | rfl | rfl | rfl | rfl
  · exact tb_at 1589 (by decide +kernel) (by decide +kernel)
  · exact tb_at 1591 (by decide +kernel) (by decide +kernel)
  · exact tb_at 1593 (by decide +kernel) (by decide +kernel)
  · exact tb_at 1595 (by decide +kernel) (by decide +kernel)
  · exact tb_at 1597 (by decide +kernel) (by decide +kernel)
  · exact tb_at 1599 (by decide +kernel) (by decide +kernel)
  · exact tb_at 1601 (by decide +kernel) (by decide +kernel)
  · exact tb_at 1603 (by decide +kernel) (by decide +kernel)
  · exact tb_at 1605 (by decide +kernel) (by decide +kernel)
  · exact tb_at 1607 (by decide +kernel) (by decide +kernel)
  · exact tb_at 1609 (by decide +kernel) (by decide +kernel)
  · exact tb_at 1611 (by decide +kernel) (by decide +kernel)
  · exact tb_at 1613 (by decide +kernel) (by decide +kernel)
  · exact tb_at 1615 (by decide +kernel) (by decide +kernel)
  · exact tb_at 1617 (by decide +kernel) (by decide +kernel)
  · exact tb_at 1619 (by decide +kernel) (by decide +kernel)
  · exact tb_at 1621 (by decide +kernel) (by decide +kernel)
  · exact tb_at 1623 (by decide +kernel) (by decide +kernel)
  · exact tb_at 1625 (by decide +kernel) (by decide +kernel)
  · exact tb_at 1627 (by decide +kernel) (by decide +kernel)
  · exact tb_at 1629 (by decide +kernel) (by decide +kernel)
  · exact tb_at 1631 (by decide +kernel) (by decide +kernel)
  · exact tb_at 1633 (by decide +kernel) (by decide +kernel)
  · exact tb_at 1635 (by decide +kernel) (by decide +kernel)
theorem mok_Bd_init : MOK K_Bd_init 0 := ⟨tb_at 454 (by decide +kernel) (by decide +kernel), tb_at 136 (by decide +kernel) (by decide +kernel), by decide +kernel, by decide +kernel, by decide +kernel⟩
theorem mok_Bd_clear : MOK K_Bd_clear 0 := ⟨tb_at 459 (by decide +kernel) (by decide +kernel), tb_at 136 (by decide +kernel) (by decide +kernel), by decide +kernel, by decide +kernel, by decide +kernel⟩
theorem mok_Bd_copyFrom : MOK K_Bd_copyFrom 1 := ⟨tb_at 1433 (by decide +kernel) (by decide +kernel), tb_at 136 (by decide +kernel) (by decide +kernel), by decide +kernel, by decide +kernel, by decide +kernel⟩
theorem mok_Bd_has : MOK K_Bd_has 1 := ⟨tb_at 921 (by decide +kernel) (by decide +kernel), tb_at 136 (by decide +kernel) (by decide +kernel), by decide +kernel, by decide +kernel, by decide +kernel⟩
theorem mok_Bd_knownCount : MOK K_Bd_knownCount 0 := ⟨tb_at 933 (by decide +kernel) (by decide +kernel), tb_at 136 (by decide +kernel) (by decide +kernel), by decide +kernel, by decide +kernel, by decide +kernel⟩
theorem mok_Bd_canHang : MOK K_Bd_canHang 1 := ⟨tb_at 1403 (by decide +kernel) (by decide +kernel), tb_at 136 (by decide +kernel) (by decide +kernel), by decide +kernel, by decide +kernel, by decide +kernel⟩
theorem mok_Bd_keepWaiting : MOK K_Bd_keepWaiting 1 := ⟨tb_at 1395 (by decide +kernel) (by decide +kernel), tb_at 136 (by decide +kernel) (by decide +kernel), by decide +kernel, by decide +kernel, by decide +kernel⟩
theorem mok_Bd_endWaiting : MOK K_Bd_endWaiting 1 := ⟨tb_at 1411 (by decide +kernel) (by decide +kernel), tb_at 136 (by decide +kernel) (by decide +kernel), by decide +kernel, by decide +kernel, by decide +kernel⟩
theorem mok_Bd_show : MOK K_Bd_show 3 := ⟨tb_at 1252 (by decide +kernel) (by decide +kernel), tb_at 136 (by decide +kernel) (by decide +kernel), by decide +kernel, by decide +kernel, by decide +kernel⟩
theorem mok_Bd_shownFrom : MOK K_Bd_shownFrom 2 := ⟨tb_at 974 (by decide +kernel) (by decide +kernel), tb_at 136 (by decide +kernel) (by decide +kernel), by decide +kernel, by decide +kernel, by decide +kernel⟩
theorem mok_Bd_shownAt : MOK K_Bd_shownAt 2 := ⟨tb_at 999 (by decide +kernel) (by decide +kernel), tb_at 136 (by decide +kernel) (by decide +kernel), by decide +kernel, by decide +kernel, by decide +kernel⟩
theorem mok_Bd_shownCount : MOK K_Bd_shownCount 1 := ⟨tb_at 970 (by decide +kernel) (by decide +kernel), tb_at 136 (by decide +kernel) (by decide +kernel), by decide +kernel, by decide +kernel, by decide +kernel⟩
theorem mok_Bd_noticesWith : MOK K_Bd_noticesWith 1 := ⟨tb_at 966 (by decide +kernel) (by decide +kernel), tb_at 136 (by decide +kernel) (by decide +kernel), by decide +kernel, by decide +kernel, by decide +kernel⟩
theorem mok_Bd_showsAsMuchAs : MOK K_Bd_showsAsMuchAs 1 := ⟨tb_at 905 (by decide +kernel) (by decide +kernel), tb_at 136 (by decide +kernel) (by decide +kernel), by decide +kernel, by decide +kernel, by decide +kernel⟩
theorem mok_Cd_init : MOK K_Cd_init 0 := ⟨tb_at 173 (by decide +kernel) (by decide +kernel), tb_at 126 (by decide +kernel) (by decide +kernel), by decide +kernel, by decide +kernel, by decide +kernel⟩
theorem mok_Cd_add : MOK K_Cd_add 2 := ⟨tb_at 720 (by decide +kernel) (by decide +kernel), tb_at 126 (by decide +kernel) (by decide +kernel), by decide +kernel, by decide +kernel, by decide +kernel⟩
theorem mok_Cd_settle : MOK K_Cd_settle 1 := ⟨tb_at 873 (by decide +kernel) (by decide +kernel), tb_at 126 (by decide +kernel) (by decide +kernel), by decide +kernel, by decide +kernel, by decide +kernel⟩
theorem mok_Cd_reckon : MOK K_Cd_reckon 3 := ⟨tb_at 1354 (by decide +kernel) (by decide +kernel), tb_at 126 (by decide +kernel) (by decide +kernel), by decide +kernel, by decide +kernel, by decide +kernel⟩
theorem mok_Cd_joined : MOK K_Cd_joined 3 := ⟨tb_at 1368 (by decide +kernel) (by decide +kernel), tb_at 126 (by decide +kernel) (by decide +kernel), by decide +kernel, by decide +kernel, by decide +kernel⟩
theorem mok_Cd_compares : MOK K_Cd_compares 3 := ⟨tb_at 1373 (by decide +kernel) (by decide +kernel), tb_at 126 (by decide +kernel) (by decide +kernel), by decide +kernel, by decide +kernel, by decide +kernel⟩
theorem mok_Cd_push : MOK K_Cd_push 1 := ⟨tb_at 1360 (by decide +kernel) (by decide +kernel), tb_at 126 (by decide +kernel) (by decide +kernel), by decide +kernel, by decide +kernel, by decide +kernel⟩
theorem mok_Cd_pop : MOK K_Cd_pop 0 := ⟨tb_at 1365 (by decide +kernel) (by decide +kernel), tb_at 126 (by decide +kernel) (by decide +kernel), by decide +kernel, by decide +kernel, by decide +kernel⟩
theorem mok_Gr_init : MOK K_Gr_init 2 := ⟨tb_at 354 (by decide +kernel) (by decide +kernel), tb_at 132 (by decide +kernel) (by decide +kernel), by decide +kernel, by decide +kernel, by decide +kernel⟩
theorem mok_Gr_firstMisfit : MOK K_Gr_firstMisfit 1 := ⟨tb_at 656 (by decide +kernel) (by decide +kernel), tb_at 132 (by decide +kernel) (by decide +kernel), by decide +kernel, by decide +kernel, by decide +kernel⟩
theorem mok_Gr_line : MOK K_Gr_line 0 := ⟨tb_at 665 (by decide +kernel) (by decide +kernel), tb_at 132 (by decide +kernel) (by decide +kernel), by decide +kernel, by decide +kernel, by decide +kernel⟩
theorem mok_Gr_roadLine : MOK K_Gr_roadLine 0 := ⟨tb_at 682 (by decide +kernel) (by decide +kernel), tb_at 132 (by decide +kernel) (by decide +kernel), by decide +kernel, by decide +kernel, by decide +kernel⟩
theorem mok_Gr_orderLine : MOK K_Gr_orderLine 1 := ⟨tb_at 699 (by decide +kernel) (by decide +kernel), tb_at 132 (by decide +kernel) (by decide +kernel), by decide +kernel, by decide +kernel, by decide +kernel⟩
theorem mok_Gr_wayOfMerging : MOK K_Gr_wayOfMerging 0 := ⟨tb_at 762 (by decide +kernel) (by decide +kernel), tb_at 132 (by decide +kernel) (by decide +kernel), by decide +kernel, by decide +kernel, by decide +kernel⟩
theorem mok_Gr_test : MOK K_Gr_test 1 := ⟨tb_at 774 (by decide +kernel) (by decide +kernel), tb_at 132 (by decide +kernel) (by decide +kernel), by decide +kernel, by decide +kernel, by decide +kernel⟩
theorem mok_Gr_both : MOK K_Gr_both 1 := ⟨tb_at 778 (by decide +kernel) (by decide +kernel), tb_at 132 (by decide +kernel) (by decide +kernel), by decide +kernel, by decide +kernel, by decide +kernel⟩
theorem mok_Gr_single : MOK K_Gr_single 1 := ⟨tb_at 782 (by decide +kernel) (by decide +kernel), tb_at 132 (by decide +kernel) (by decide +kernel), by decide +kernel, by decide +kernel, by decide +kernel⟩
theorem mok_Gr_takeComparison : MOK K_Gr_takeComparison 0 := ⟨tb_at 792 (by decide +kernel) (by decide +kernel), tb_at 132 (by decide +kernel) (by decide +kernel), by decide +kernel, by decide +kernel, by decide +kernel⟩
theorem mok_Gr_sum : MOK K_Gr_sum 1 := ⟨tb_at 708 (by decide +kernel) (by decide +kernel), tb_at 132 (by decide +kernel) (by decide +kernel), by decide +kernel, by decide +kernel, by decide +kernel⟩
theorem mok_Gr_product : MOK K_Gr_product 1 := ⟨tb_at 712 (by decide +kernel) (by decide +kernel), tb_at 132 (by decide +kernel) (by decide +kernel), by decide +kernel, by decide +kernel, by decide +kernel⟩
theorem mok_Gr_value : MOK K_Gr_value 1 := ⟨tb_at 716 (by decide +kernel) (by decide +kernel), tb_at 132 (by decide +kernel) (by decide +kernel), by decide +kernel, by decide +kernel, by decide +kernel⟩
theorem mok_Gr_pair : MOK K_Gr_pair 1 := ⟨tb_at 742 (by decide +kernel) (by decide +kernel), tb_at 132 (by decide +kernel) (by decide +kernel), by decide +kernel, by decide +kernel, by decide +kernel⟩
theorem mok_Gr_board : MOK K_Gr_board 1 := ⟨tb_at 724 (by decide +kernel) (by decide +kernel), tb_at 132 (by decide +kernel) (by decide +kernel), by decide +kernel, by decide +kernel, by decide +kernel⟩
theorem mok_Gr_goesDeeper : MOK K_Gr_goesDeeper 2 := ⟨tb_at 732 (by decide +kernel) (by decide +kernel), tb_at 132 (by decide +kernel) (by decide +kernel), by decide +kernel, by decide +kernel, by decide +kernel⟩
theorem mok_Gr_take : MOK K_Gr_take 1 := ⟨tb_at 677 (by decide +kernel) (by decide +kernel), tb_at 132 (by decide +kernel) (by decide +kernel), by decide +kernel, by decide +kernel, by decide +kernel⟩
theorem mok_Nm_init : MOK K_Nm_init 2 := ⟨tb_at 375 (by decide +kernel) (by decide +kernel), tb_at 133 (by decide +kernel) (by decide +kernel), by decide +kernel, by decide +kernel, by decide +kernel⟩
theorem mok_Nm_firstError : MOK K_Nm_firstError 1 := ⟨tb_at 806 (by decide +kernel) (by decide +kernel), tb_at 133 (by decide +kernel) (by decide +kernel), by decide +kernel, by decide +kernel, by decide +kernel⟩
theorem mok_Nm_look : MOK K_Nm_look 1 := ⟨tb_at 810 (by decide +kernel) (by decide +kernel), tb_at 133 (by decide +kernel) (by decide +kernel), by decide +kernel, by decide +kernel, by decide +kernel⟩
theorem mok_Nm_tell : MOK K_Nm_tell 3 := ⟨tb_at 817 (by decide +kernel) (by decide +kernel), tb_at 133 (by decide +kernel) (by decide +kernel), by decide +kernel, by decide +kernel, by decide +kernel⟩
theorem mok_Nm_find : MOK K_Nm_find 3 := ⟨tb_at 832 (by decide +kernel) (by decide +kernel), tb_at 133 (by decide +kernel) (by decide +kernel), by decide +kernel, by decide +kernel, by decide +kernel⟩
theorem mok_Nm_findBoard : MOK K_Nm_findBoard 1 := ⟨tb_at 861 (by decide +kernel) (by decide +kernel), tb_at 133 (by decide +kernel) (by decide +kernel), by decide +kernel, by decide +kernel, by decide +kernel⟩
theorem mok_Nm_findOtherParish : MOK K_Nm_findOtherParish 2 := ⟨tb_at 840 (by decide +kernel) (by decide +kernel), tb_at 133 (by decide +kernel) (by decide +kernel), by decide +kernel, by decide +kernel, by decide +kernel⟩
theorem mok_Nm_layRoad : MOK K_Nm_layRoad 1 := ⟨tb_at 848 (by decide +kernel) (by decide +kernel), tb_at 133 (by decide +kernel) (by decide +kernel), by decide +kernel, by decide +kernel, by decide +kernel⟩
theorem mok_Nm_countOrder : MOK K_Nm_countOrder 1 := ⟨tb_at 857 (by decide +kernel) (by decide +kernel), tb_at 133 (by decide +kernel) (by decide +kernel), by decide +kernel, by decide +kernel, by decide +kernel⟩
theorem mok_Nm_placeOf : MOK K_Nm_placeOf 3 := ⟨tb_at 824 (by decide +kernel) (by decide +kernel), tb_at 133 (by decide +kernel) (by decide +kernel), by decide +kernel, by decide +kernel, by decide +kernel⟩
theorem mok_Nm_fail : MOK K_Nm_fail 2 := ⟨tb_at 828 (by decide +kernel) (by decide +kernel), tb_at 133 (by decide +kernel) (by decide +kernel), by decide +kernel, by decide +kernel, by decide +kernel⟩
theorem mok_Od_init : MOK K_Od_init 0 := ⟨tb_at 234 (by decide +kernel) (by decide +kernel), tb_at 128 (by decide +kernel) (by decide +kernel), by decide +kernel, by decide +kernel, by decide +kernel⟩
theorem mok_Od_settle : MOK K_Od_settle 1 := ⟨tb_at 880 (by decide +kernel) (by decide +kernel), tb_at 128 (by decide +kernel) (by decide +kernel), by decide +kernel, by decide +kernel, by decide +kernel⟩
theorem mok_Od_hasTest : MOK K_Od_hasTest 0 := ⟨tb_at 1350 (by decide +kernel) (by decide +kernel), tb_at 128 (by decide +kernel) (by decide +kernel), by decide +kernel, by decide +kernel, by decide +kernel⟩
theorem mok_Pl_init : MOK K_Pl_init 0 := ⟨tb_at 167 (by decide +kernel) (by decide +kernel), tb_at 125 (by decide +kernel) (by decide +kernel), by decide +kernel, by decide +kernel, by decide +kernel⟩
theorem mok_Pl_clear : MOK K_Pl_clear 0 := ⟨tb_at 652 (by decide +kernel) (by decide +kernel), tb_at 125 (by decide +kernel) (by decide +kernel), by decide +kernel, by decide +kernel, by decide +kernel⟩
theorem mok_Pl_nextOrder : MOK K_Pl_nextOrder 0 := ⟨tb_at 695 (by decide +kernel) (by decide +kernel), tb_at 125 (by decide +kernel) (by decide +kernel), by decide +kernel, by decide +kernel, by decide +kernel⟩
theorem mok_Pl_settle : MOK K_Pl_settle 1 := ⟨tb_at 869 (by decide +kernel) (by decide +kernel), tb_at 125 (by decide +kernel) (by decide +kernel), by decide +kernel, by decide +kernel, by decide +kernel⟩
theorem mok_Rd_init : MOK K_Rd_init 0 := ⟨tb_at 207 (by decide +kernel) (by decide +kernel), tb_at 127 (by decide +kernel) (by decide +kernel), by decide +kernel, by decide +kernel, by decide +kernel⟩
theorem mok_Rd_lay : MOK K_Rd_lay 3 := ⟨tb_at 853 (by decide +kernel) (by decide +kernel), tb_at 127 (by decide +kernel) (by decide +kernel), by decide +kernel, by decide +kernel, by decide +kernel⟩
theorem mok_Rd_copyFrom : MOK K_Rd_copyFrom 1 := ⟨tb_at 890 (by decide +kernel) (by decide +kernel), tb_at 127 (by decide +kernel) (by decide +kernel), by decide +kernel, by decide +kernel, by decide +kernel⟩
theorem mok_Sh_init : MOK K_Sh_init 0 := ⟨tb_at 417 (by decide +kernel) (by decide +kernel), tb_at 135 (by decide +kernel) (by decide +kernel), by decide +kernel, by decide +kernel, by decide +kernel⟩
theorem mok_Sh_copyFrom : MOK K_Sh_copyFrom 1 := ⟨tb_at 1428 (by decide +kernel) (by decide +kernel), tb_at 135 (by decide +kernel) (by decide +kernel), by decide +kernel, by decide +kernel, by decide +kernel⟩
theorem mok_Sh_isAheadOf : MOK K_Sh_isAheadOf 1 := ⟨tb_at 1209 (by decide +kernel) (by decide +kernel), tb_at 135 (by decide +kernel) (by decide +kernel), by decide +kernel, by decide +kernel, by decide +kernel⟩
theorem mok_Tk_init : MOK K_Tk_init 0 := ⟨tb_at 321 (by decide +kernel) (by decide +kernel), tb_at 131 (by decide +kernel) (by decide +kernel), by decide +kernel, by decide +kernel, by decide +kernel⟩
theorem mok_Tk_scan : MOK K_Tk_scan 2 := ⟨tb_at 547 (by decide +kernel) (by decide +kernel), tb_at 131 (by decide +kernel) (by decide +kernel), by decide +kernel, by decide +kernel, by decide +kernel⟩
theorem mok_Tk_kindAt : MOK K_Tk_kindAt 1 := ⟨tb_at 660 (by decide +kernel) (by decide +kernel), tb_at 131 (by decide +kernel) (by decide +kernel), by decide +kernel, by decide +kernel, by decide +kernel⟩
theorem mok_Tk_startAt : MOK K_Tk_startAt 1 := ⟨tb_at 802 (by decide +kernel) (by decide +kernel), tb_at 131 (by decide +kernel) (by decide +kernel), by decide +kernel, by decide +kernel, by decide +kernel⟩
theorem mok_Tk_worthAt : MOK K_Tk_worthAt 1 := ⟨tb_at 821 (by decide +kernel) (by decide +kernel), tb_at 131 (by decide +kernel) (by decide +kernel), by decide +kernel, by decide +kernel, by decide +kernel⟩
theorem mok_Tk_meaningAt : MOK K_Tk_meaningAt 1 := ⟨tb_at 844 (by decide +kernel) (by decide +kernel), tb_at 131 (by decide +kernel) (by decide +kernel), by decide +kernel, by decide +kernel, by decide +kernel⟩
theorem mok_Tk_setMeaning : MOK K_Tk_setMeaning 2 := ⟨tb_at 836 (by decide +kernel) (by decide +kernel), tb_at 131 (by decide +kernel) (by decide +kernel), by decide +kernel, by decide +kernel, by decide +kernel⟩
theorem mok_Tk_behindToken : MOK K_Tk_behindToken 2 := ⟨tb_at 559 (by decide +kernel) (by decide +kernel), tb_at 131 (by decide +kernel) (by decide +kernel), by decide +kernel, by decide +kernel, by decide +kernel⟩
theorem mok_Tk_behindBlanks : MOK K_Tk_behindBlanks 1 := ⟨tb_at 551 (by decide +kernel) (by decide +kernel), tb_at 131 (by decide +kernel) (by decide +kernel), by decide +kernel, by decide +kernel, by decide +kernel⟩
theorem mok_Tk_behindRun : MOK K_Tk_behindRun 1 := ⟨tb_at 566 (by decide +kernel) (by decide +kernel), tb_at 131 (by decide +kernel) (by decide +kernel), by decide +kernel, by decide +kernel, by decide +kernel⟩
theorem mok_Tk_kindOf : MOK K_Tk_kindOf 2 := ⟨tb_at 634 (by decide +kernel) (by decide +kernel), tb_at 131 (by decide +kernel) (by decide +kernel), by decide +kernel, by decide +kernel, by decide +kernel⟩
theorem mok_Tk_symbolAt : MOK K_Tk_symbolAt 1 := ⟨tb_at 576 (by decide +kernel) (by decide +kernel), tb_at 131 (by decide +kernel) (by decide +kernel), by decide +kernel, by decide +kernel, by decide +kernel⟩
theorem mok_Tk_standsAt : MOK K_Tk_standsAt 2 := ⟨tb_at 592 (by decide +kernel) (by decide +kernel), tb_at 131 (by decide +kernel) (by decide +kernel), by decide +kernel, by decide +kernel, by decide +kernel⟩
theorem mok_Tk_numberWorth : MOK K_Tk_numberWorth 2 := ⟨tb_at 642 (by decide +kernel) (by decide +kernel), tb_at 131 (by decide +kernel) (by decide +kernel), by decide +kernel, by decide +kernel, by decide +kernel⟩
theorem mok_Tk_nameWorth : MOK K_Tk_nameWorth 2 := ⟨tb_at 647 (by decide +kernel) (by decide +kernel), tb_at 131 (by decide +kernel) (by decide +kernel), by decide +kernel, by decide +kernel, by decide +kernel⟩
theorem mok_Tk_byteAt : MOK K_Tk_byteAt 1 := ⟨tb_at 555 (by decide +kernel) (by decide +kernel), tb_at 131 (by decide +kernel) (by decide +kernel), by decide +kernel, by decide +kernel, by decide +kernel⟩
theorem mok_Tk_isLetter : MOK K_Tk_isLetter 1 := ⟨tb_at 569 (by decide +kernel) (by decide +kernel), tb_at 131 (by decide +kernel) (by decide +kernel), by decide +kernel, by decide +kernel, by decide +kernel⟩
theorem mok_Tk_isDigit : MOK K_Tk_isDigit 1 := ⟨tb_at 572 (by decide +kernel) (by decide +kernel), tb_at 131 (by decide +kernel) (by decide +kernel), by decide +kernel, by decide +kernel, by decide +kernel⟩
theorem mok_Wd_init : MOK K_Wd_init 1 := ⟨tb_at 407 (by decide +kernel) (by decide +kernel), tb_at 134 (by decide +kernel) (by decide +kernel), by decide +kernel, by decide +kernel, by decide +kernel⟩
theorem mok_Wd_begin : MOK K_Wd_begin 1 := ⟨tb_at 885 (by decide +kernel) (by decide +kernel), tb_at 134 (by decide +kernel) (by decide +kernel), by decide +kernel, by decide +kernel, by decide +kernel⟩
theorem mok_Wd_copyFrom : MOK K_Wd_copyFrom 1 := ⟨tb_at 1424 (by decide +kernel) (by decide +kernel), tb_at 134 (by decide +kernel) (by decide +kernel), by decide +kernel, by decide +kernel, by decide +kernel⟩
theorem mok_Wd_tally : MOK K_Wd_tally 1 := ⟨tb_at 946 (by decide +kernel) (by decide +kernel), tb_at 134 (by decide +kernel) (by decide +kernel), by decide +kernel, by decide +kernel, by decide +kernel⟩
theorem mok_Wd_parishFact : MOK K_Wd_parishFact 2 := ⟨tb_at 990 (by decide +kernel) (by decide +kernel), tb_at 134 (by decide +kernel) (by decide +kernel), by decide +kernel, by decide +kernel, by decide +kernel⟩
theorem mok_Wd_sheetFact : MOK K_Wd_sheetFact 2 := ⟨tb_at 1007 (by decide +kernel) (by decide +kernel), tb_at 134 (by decide +kernel) (by decide +kernel), by decide +kernel, by decide +kernel, by decide +kernel⟩
theorem mok_Wd_roadFact : MOK K_Wd_roadFact 2 := ⟨tb_at 1017 (by decide +kernel) (by decide +kernel), tb_at 134 (by decide +kernel) (by decide +kernel), by decide +kernel, by decide +kernel, by decide +kernel⟩
theorem mok_Wd_isKnownAt : MOK K_Wd_isKnownAt 2 := ⟨tb_at 917 (by decide +kernel) (by decide +kernel), tb_at 134 (by decide +kernel) (by decide +kernel), by decide +kernel, by decide +kernel, by decide +kernel⟩
theorem mok_Wd_knowers : MOK K_Wd_knowers 1 := ⟨tb_at 913 (by decide +kernel) (by decide +kernel), tb_at 134 (by decide +kernel) (by decide +kernel), by decide +kernel, by decide +kernel, by decide +kernel⟩
theorem mok_Wd_knownOnBoards : MOK K_Wd_knownOnBoards 0 := ⟨tb_at 929 (by decide +kernel) (by decide +kernel), tb_at 134 (by decide +kernel) (by decide +kernel), by decide +kernel, by decide +kernel, by decide +kernel⟩
theorem mok_Wd_showers : MOK K_Wd_showers 1 := ⟨tb_at 1012 (by decide +kernel) (by decide +kernel), tb_at 134 (by decide +kernel) (by decide +kernel), by decide +kernel, by decide +kernel, by decide +kernel⟩
theorem mok_Wd_roadsFrom : MOK K_Wd_roadsFrom 1 := ⟨tb_at 994 (by decide +kernel) (by decide +kernel), tb_at 134 (by decide +kernel) (by decide +kernel), by decide +kernel, by decide +kernel, by decide +kernel⟩
theorem mok_Wd_underWayOnRoads : MOK K_Wd_underWayOnRoads 0 := ⟨tb_at 950 (by decide +kernel) (by decide +kernel), tb_at 134 (by decide +kernel) (by decide +kernel), by decide +kernel, by decide +kernel, by decide +kernel⟩
theorem mok_Wd_underWayOn : MOK K_Wd_underWayOn 1 := ⟨tb_at 954 (by decide +kernel) (by decide +kernel), tb_at 134 (by decide +kernel) (by decide +kernel), by decide +kernel, by decide +kernel, by decide +kernel⟩
theorem mok_Wd_waitingAtBoards : MOK K_Wd_waitingAtBoards 0 := ⟨tb_at 958 (by decide +kernel) (by decide +kernel), tb_at 134 (by decide +kernel) (by decide +kernel), by decide +kernel, by decide +kernel, by decide +kernel⟩
theorem mok_Wd_tornOnBoards : MOK K_Wd_tornOnBoards 0 := ⟨tb_at 962 (by decide +kernel) (by decide +kernel), tb_at 134 (by decide +kernel) (by decide +kernel), by decide +kernel, by decide +kernel, by decide +kernel⟩
theorem mok_Wd_mergedSheets : MOK K_Wd_mergedSheets 0 := ⟨tb_at 978 (by decide +kernel) (by decide +kernel), tb_at 134 (by decide +kernel) (by decide +kernel), by decide +kernel, by decide +kernel, by decide +kernel⟩
theorem mok_Wd_answer : MOK K_Wd_answer 3 := ⟨tb_at 1279 (by decide +kernel) (by decide +kernel), tb_at 134 (by decide +kernel) (by decide +kernel), by decide +kernel, by decide +kernel, by decide +kernel⟩
theorem mok_Wd_marksShown : MOK K_Wd_marksShown 2 := ⟨tb_at 1242 (by decide +kernel) (by decide +kernel), tb_at 134 (by decide +kernel) (by decide +kernel), by decide +kernel, by decide +kernel, by decide +kernel⟩
theorem mok_Wd_isFull : MOK K_Wd_isFull 0 := ⟨tb_at 1233 (by decide +kernel) (by decide +kernel), tb_at 134 (by decide +kernel) (by decide +kernel), by decide +kernel, by decide +kernel, by decide +kernel⟩
theorem mok_Wd_canNote : MOK K_Wd_canNote 2 := ⟨tb_at 1267 (by decide +kernel) (by decide +kernel), tb_at 134 (by decide +kernel) (by decide +kernel), by decide +kernel, by decide +kernel, by decide +kernel⟩
theorem mok_Wd_canMerge : MOK K_Wd_canMerge 2 := ⟨tb_at 1300 (by decide +kernel) (by decide +kernel), tb_at 134 (by decide +kernel) (by decide +kernel), by decide +kernel, by decide +kernel, by decide +kernel⟩
theorem mok_Wd_makeWritten : MOK K_Wd_makeWritten 3 := ⟨tb_at 1238 (by decide +kernel) (by decide +kernel), tb_at 134 (by decide +kernel) (by decide +kernel), by decide +kernel, by decide +kernel, by decide +kernel⟩
theorem mok_Wd_makeNoted : MOK K_Wd_makeNoted 3 := ⟨tb_at 1273 (by decide +kernel) (by decide +kernel), tb_at 134 (by decide +kernel) (by decide +kernel), by decide +kernel, by decide +kernel, by decide +kernel⟩
theorem mok_Wd_makeMerged : MOK K_Wd_makeMerged 3 := ⟨tb_at 1305 (by decide +kernel) (by decide +kernel), tb_at 134 (by decide +kernel) (by decide +kernel), by decide +kernel, by decide +kernel, by decide +kernel⟩
theorem mok_Wd_make : MOK K_Wd_make 5 := ⟨tb_at 1246 (by decide +kernel) (by decide +kernel), tb_at 134 (by decide +kernel) (by decide +kernel), by decide +kernel, by decide +kernel, by decide +kernel⟩
theorem mok_Wd_carry : MOK K_Wd_carry 1 := ⟨tb_at 1323 (by decide +kernel) (by decide +kernel), tb_at 134 (by decide +kernel) (by decide +kernel), by decide +kernel, by decide +kernel, by decide +kernel⟩
theorem mok_Wd_passDays : MOK K_Wd_passDays 1 := ⟨tb_at 1342 (by decide +kernel) (by decide +kernel), tb_at 134 (by decide +kernel) (by decide +kernel), by decide +kernel, by decide +kernel, by decide +kernel⟩
theorem mok_Wd_carriesOut : MOK K_Wd_carriesOut 1 := ⟨tb_at 1346 (by decide +kernel) (by decide +kernel), tb_at 134 (by decide +kernel) (by decide +kernel), by decide +kernel, by decide +kernel, by decide +kernel⟩
theorem mok_Wd_isNewMark : MOK K_Wd_isNewMark 3 := ⟨tb_at 1383 (by decide +kernel) (by decide +kernel), tb_at 134 (by decide +kernel) (by decide +kernel), by decide +kernel, by decide +kernel, by decide +kernel⟩
theorem mok_Wd_bringFrom : MOK K_Wd_bringFrom 1 := ⟨tb_at 1391 (by decide +kernel) (by decide +kernel), tb_at 134 (by decide +kernel) (by decide +kernel), by decide +kernel, by decide +kernel, by decide +kernel⟩
theorem mok_Wd_hangOn : MOK K_Wd_hangOn 1 := ⟨tb_at 1399 (by decide +kernel) (by decide +kernel), tb_at 134 (by decide +kernel) (by decide +kernel), by decide +kernel, by decide +kernel, by decide +kernel⟩
theorem mok_Wd_hang : MOK K_Wd_hang 2 := ⟨tb_at 1407 (by decide +kernel) (by decide +kernel), tb_at 134 (by decide +kernel) (by decide +kernel), by decide +kernel, by decide +kernel, by decide +kernel⟩
theorem mok_PB_init : MOK K_PB_init 0 := ⟨tb_at 159 (by decide +kernel) (by decide +kernel), tb_at 124 (by decide +kernel) (by decide +kernel), by decide +kernel, by decide +kernel, by decide +kernel⟩
theorem mok_PB_feed : MOK K_PB_feed 5 := ⟨tb_at 1025 (by decide +kernel) (by decide +kernel), tb_at 124 (by decide +kernel) (by decide +kernel), by decide +kernel, by decide +kernel, by decide +kernel⟩
theorem mok_PB_trim : MOK K_PB_trim 1 := ⟨tb_at 1104 (by decide +kernel) (by decide +kernel), tb_at 124 (by decide +kernel) (by decide +kernel), by decide +kernel, by decide +kernel, by decide +kernel⟩
theorem mok_PB_teach : MOK K_PB_teach 0 := ⟨tb_at 543 (by decide +kernel) (by decide +kernel), tb_at 124 (by decide +kernel) (by decide +kernel), by decide +kernel, by decide +kernel, by decide +kernel⟩
theorem mok_PB_errorAt : MOK K_PB_errorAt 0 := ⟨tb_at 897 (by decide +kernel) (by decide +kernel), tb_at 124 (by decide +kernel) (by decide +kernel), by decide +kernel, by decide +kernel, by decide +kernel⟩
theorem mok_PB_count : MOK K_PB_count 1 := ⟨tb_at 1128 (by decide +kernel) (by decide +kernel), tb_at 124 (by decide +kernel) (by decide +kernel), by decide +kernel, by decide +kernel, by decide +kernel⟩
theorem mok_PB_parish : MOK K_PB_parish 2 := ⟨tb_at 1151 (by decide +kernel) (by decide +kernel), tb_at 124 (by decide +kernel) (by decide +kernel), by decide +kernel, by decide +kernel, by decide +kernel⟩
theorem mok_PB_knows : MOK K_PB_knows 2 := ⟨tb_at 1163 (by decide +kernel) (by decide +kernel), tb_at 124 (by decide +kernel) (by decide +kernel), by decide +kernel, by decide +kernel, by decide +kernel⟩
theorem mok_PB_sheet : MOK K_PB_sheet 2 := ⟨tb_at 1171 (by decide +kernel) (by decide +kernel), tb_at 124 (by decide +kernel) (by decide +kernel), by decide +kernel, by decide +kernel, by decide +kernel⟩
theorem mok_PB_stamp : MOK K_PB_stamp 2 := ⟨tb_at 1183 (by decide +kernel) (by decide +kernel), tb_at 124 (by decide +kernel) (by decide +kernel), by decide +kernel, by decide +kernel, by decide +kernel⟩
theorem mok_PB_shown : MOK K_PB_shown 3 := ⟨tb_at 1191 (by decide +kernel) (by decide +kernel), tb_at 124 (by decide +kernel) (by decide +kernel), by decide +kernel, by decide +kernel, by decide +kernel⟩
theorem mok_PB_compare : MOK K_PB_compare 2 := ⟨tb_at 1204 (by decide +kernel) (by decide +kernel), tb_at 124 (by decide +kernel) (by decide +kernel), by decide +kernel, by decide +kernel, by decide +kernel⟩
theorem mok_PB_road : MOK K_PB_road 2 := ⟨tb_at 1216 (by decide +kernel) (by decide +kernel), tb_at 124 (by decide +kernel) (by decide +kernel), by decide +kernel, by decide +kernel, by decide +kernel⟩
theorem mok_PB_write : MOK K_PB_write 3 := ⟨tb_at 1228 (by decide +kernel) (by decide +kernel), tb_at 124 (by decide +kernel) (by decide +kernel), by decide +kernel, by decide +kernel, by decide +kernel⟩
theorem mok_PB_note : MOK K_PB_note 3 := ⟨tb_at 1259 (by decide +kernel) (by decide +kernel), tb_at 124 (by decide +kernel) (by decide +kernel), by decide +kernel, by decide +kernel, by decide +kernel⟩
theorem mok_PB_merge : MOK K_PB_merge 3 := ⟨tb_at 1295 (by decide +kernel) (by decide +kernel), tb_at 124 (by decide +kernel) (by decide +kernel), by decide +kernel, by decide +kernel, by decide +kernel⟩
theorem mok_PB_send : MOK K_PB_send 1 := ⟨tb_at 1318 (by decide +kernel) (by decide +kernel), tb_at 124 (by decide +kernel) (by decide +kernel), by decide +kernel, by decide +kernel, by decide +kernel⟩
theorem mok_PB_setDays : MOK K_PB_setDays 2 := ⟨tb_at 1330 (by decide +kernel) (by decide +kernel), tb_at 124 (by decide +kernel) (by decide +kernel), by decide +kernel, by decide +kernel, by decide +kernel⟩
theorem mok_PB_pass : MOK K_PB_pass 1 := ⟨tb_at 1338 (by decide +kernel) (by decide +kernel), tb_at 124 (by decide +kernel) (by decide +kernel), by decide +kernel, by decide +kernel, by decide +kernel⟩
theorem mok_PB_foresee : MOK K_PB_foresee 2 := ⟨tb_at 1419 (by decide +kernel) (by decide +kernel), tb_at 124 (by decide +kernel) (by decide +kernel), by decide +kernel, by decide +kernel, by decide +kernel⟩
theorem mok_PB_until : MOK K_PB_until 2 := ⟨tb_at 1441 (by decide +kernel) (by decide +kernel), tb_at 124 (by decide +kernel) (by decide +kernel), by decide +kernel, by decide +kernel, by decide +kernel⟩
theorem mok_PB_alike : MOK K_PB_alike 0 := ⟨tb_at 901 (by decide +kernel) (by decide +kernel), tb_at 124 (by decide +kernel) (by decide +kernel), by decide +kernel, by decide +kernel, by decide +kernel⟩
theorem mok_PB_missed : MOK K_PB_missed 0 := ⟨tb_at 909 (by decide +kernel) (by decide +kernel), tb_at 124 (by decide +kernel) (by decide +kernel), by decide +kernel, by decide +kernel, by decide +kernel⟩
theorem mok_PB_advise : MOK K_PB_advise 1 := ⟨tb_at 1450 (by decide +kernel) (by decide +kernel), tb_at 124 (by decide +kernel) (by decide +kernel), by decide +kernel, by decide +kernel, by decide +kernel⟩
theorem mok_PB_mean : MOK K_PB_mean 0 := ⟨tb_at 925 (by decide +kernel) (by decide +kernel), tb_at 124 (by decide +kernel) (by decide +kernel), by decide +kernel, by decide +kernel, by decide +kernel⟩
theorem mok_PB_digest : MOK K_PB_digest 0 := ⟨tb_at 937 (by decide +kernel) (by decide +kernel), tb_at 124 (by decide +kernel) (by decide +kernel), by decide +kernel, by decide +kernel, by decide +kernel⟩
theorem mok_PB_append : MOK K_PB_append 1 := ⟨tb_at 1096 (by decide +kernel) (by decide +kernel), tb_at 124 (by decide +kernel) (by decide +kernel), by decide +kernel, by decide +kernel, by decide +kernel⟩
theorem mok_PB_beginAnew : MOK K_PB_beginAnew 0 := ⟨tb_at 865 (by decide +kernel) (by decide +kernel), tb_at 124 (by decide +kernel) (by decide +kernel), by decide +kernel, by decide +kernel, by decide +kernel⟩
theorem mok_PB_counted : MOK K_PB_counted 1 := ⟨tb_at 942 (by decide +kernel) (by decide +kernel), tb_at 124 (by decide +kernel) (by decide +kernel), by decide +kernel, by decide +kernel, by decide +kernel⟩
theorem mok_PB_isParish : MOK K_PB_isParish 1 := ⟨tb_at 1155 (by decide +kernel) (by decide +kernel), tb_at 124 (by decide +kernel) (by decide +kernel), by decide +kernel, by decide +kernel, by decide +kernel⟩
theorem mok_PB_isBoardOf : MOK K_PB_isBoardOf 2 := ⟨tb_at 1195 (by decide +kernel) (by decide +kernel), tb_at 124 (by decide +kernel) (by decide +kernel), by decide +kernel, by decide +kernel, by decide +kernel⟩
theorem mok_PB_isRoad : MOK K_PB_isRoad 1 := ⟨tb_at 1220 (by decide +kernel) (by decide +kernel), tb_at 124 (by decide +kernel) (by decide +kernel), by decide +kernel, by decide +kernel, by decide +kernel⟩
theorem mok_PB_isSheet : MOK K_PB_isSheet 1 := ⟨tb_at 1175 (by decide +kernel) (by decide +kernel), tb_at 124 (by decide +kernel) (by decide +kernel), by decide +kernel, by decide +kernel, by decide +kernel⟩
theorem mok_PB_isMark : MOK K_PB_isMark 1 := ⟨tb_at 1262 (by decide +kernel) (by decide +kernel), tb_at 124 (by decide +kernel) (by decide +kernel), by decide +kernel, by decide +kernel, by decide +kernel⟩
theorem mok_PB_mixed : MOK K_PB_mixed 2 := ⟨tb_at 981 (by decide +kernel) (by decide +kernel), tb_at 124 (by decide +kernel) (by decide +kernel), by decide +kernel, by decide +kernel, by decide +kernel⟩
theorem mok_PB_mixedParish : MOK K_PB_mixedParish 2 := ⟨tb_at 986 (by decide +kernel) (by decide +kernel), tb_at 124 (by decide +kernel) (by decide +kernel), by decide +kernel, by decide +kernel, by decide +kernel⟩
theorem mok_PB_mixedSheet : MOK K_PB_mixedSheet 2 := ⟨tb_at 1003 (by decide +kernel) (by decide +kernel), tb_at 124 (by decide +kernel) (by decide +kernel), by decide +kernel, by decide +kernel, by decide +kernel⟩
theorem mok_MP_init : MOK K_MP_init 0 := ⟨tb_at 1461 (by decide +kernel) (by decide +kernel), tb_at 138 (by decide +kernel) (by decide +kernel), by decide +kernel, by decide +kernel, by decide +kernel⟩
theorem mok_MS_init : MOK K_MS_init 1 := ⟨tb_at 1551 (by decide +kernel) (by decide +kernel), tb_at 139 (by decide +kernel) (by decide +kernel), by decide +kernel, by decide +kernel, by decide +kernel⟩
theorem mok_MS_copy : MOK K_MS_copy 2 := ⟨tb_at 1645 (by decide +kernel) (by decide +kernel), tb_at 139 (by decide +kernel) (by decide +kernel), by decide +kernel, by decide +kernel, by decide +kernel⟩
theorem mok_MS_copy_ : MOK K_MS_copy_ 2 := ⟨tb_at 2200 (by decide +kernel) (by decide +kernel), tb_at 139 (by decide +kernel) (by decide +kernel), by decide +kernel, by decide +kernel, by decide +kernel⟩
theorem mok_MS_become : MOK K_MS_become 1 := ⟨tb_at 2196 (by decide +kernel) (by decide +kernel), tb_at 139 (by decide +kernel) (by decide +kernel), by decide +kernel, by decide +kernel, by decide +kernel⟩
theorem mok_MS_begin : MOK K_MS_begin 0 := ⟨tb_at 1641 (by decide +kernel) (by decide +kernel), tb_at 139 (by decide +kernel) (by decide +kernel), by decide +kernel, by decide +kernel, by decide +kernel⟩
theorem mok_MS_stampOf : MOK K_MS_stampOf 2 := ⟨tb_at 2038 (by decide +kernel) (by decide +kernel), tb_at 139 (by decide +kernel) (by decide +kernel), by decide +kernel, by decide +kernel, by decide +kernel⟩
theorem mok_MS_numberOf : MOK K_MS_numberOf 2 := ⟨tb_at 2002 (by decide +kernel) (by decide +kernel), tb_at 139 (by decide +kernel) (by decide +kernel), by decide +kernel, by decide +kernel, by decide +kernel⟩
theorem mok_MS_knows : MOK K_MS_knows 2 := ⟨tb_at 2034 (by decide +kernel) (by decide +kernel), tb_at 139 (by decide +kernel) (by decide +kernel), by decide +kernel, by decide +kernel, by decide +kernel⟩
theorem mok_MS_isAhead : MOK K_MS_isAhead 2 := ⟨tb_at 2064 (by decide +kernel) (by decide +kernel), tb_at 139 (by decide +kernel) (by decide +kernel), by decide +kernel, by decide +kernel, by decide +kernel⟩
theorem mok_MS_spot : MOK K_MS_spot 3 := ⟨tb_at 1982 (by decide +kernel) (by decide +kernel), tb_at 139 (by decide +kernel) (by decide +kernel), by decide +kernel, by decide +kernel, by decide +kernel⟩
theorem mok_MS_shows : MOK K_MS_shows 2 := ⟨tb_at 1978 (by decide +kernel) (by decide +kernel), tb_at 139 (by decide +kernel) (by decide +kernel), by decide +kernel, by decide +kernel, by decide +kernel⟩
theorem mok_MS_shown : MOK K_MS_shown 3 := ⟨tb_at 2056 (by decide +kernel) (by decide +kernel), tb_at 139 (by decide +kernel) (by decide +kernel), by decide +kernel, by decide +kernel, by decide +kernel⟩
theorem mok_MS_marksOf : MOK K_MS_marksOf 2 := ⟨tb_at 2089 (by decide +kernel) (by decide +kernel), tb_at 139 (by decide +kernel) (by decide +kernel), by decide +kernel, by decide +kernel, by decide +kernel⟩
theorem mok_MS_waits : MOK K_MS_waits 1 := ⟨tb_at 1970 (by decide +kernel) (by decide +kernel), tb_at 139 (by decide +kernel) (by decide +kernel), by decide +kernel, by decide +kernel, by decide +kernel⟩
theorem mok_MS_make : MOK K_MS_make 5 := ⟨tb_at 2094 (by decide +kernel) (by decide +kernel), tb_at 139 (by decide +kernel) (by decide +kernel), by decide +kernel, by decide +kernel, by decide +kernel⟩
theorem mok_MS_valueOf : MOK K_MS_valueOf 3 := ⟨tb_at 2106 (by decide +kernel) (by decide +kernel), tb_at 139 (by decide +kernel) (by decide +kernel), by decide +kernel, by decide +kernel, by decide +kernel⟩
theorem mok_MS_merge : MOK K_MS_merge 3 := ⟨tb_at 2116 (by decide +kernel) (by decide +kernel), tb_at 139 (by decide +kernel) (by decide +kernel), by decide +kernel, by decide +kernel, by decide +kernel⟩
theorem mok_MS_note : MOK K_MS_note 3 := ⟨tb_at 2102 (by decide +kernel) (by decide +kernel), tb_at 139 (by decide +kernel) (by decide +kernel), by decide +kernel, by decide +kernel, by decide +kernel⟩
theorem mok_MS_write : MOK K_MS_write 3 := ⟨tb_at 2085 (by decide +kernel) (by decide +kernel), tb_at 139 (by decide +kernel) (by decide +kernel), by decide +kernel, by decide +kernel, by decide +kernel⟩
theorem mok_MS_send : MOK K_MS_send 1 := ⟨tb_at 2124 (by decide +kernel) (by decide +kernel), tb_at 139 (by decide +kernel) (by decide +kernel), by decide +kernel, by decide +kernel, by decide +kernel⟩
theorem mok_MS_come : MOK K_MS_come 2 := ⟨tb_at 2174 (by decide +kernel) (by decide +kernel), tb_at 139 (by decide +kernel) (by decide +kernel), by decide +kernel, by decide +kernel, by decide +kernel⟩
theorem mok_MS_arrive : MOK K_MS_arrive 0 := ⟨tb_at 2170 (by decide +kernel) (by decide +kernel), tb_at 139 (by decide +kernel) (by decide +kernel), by decide +kernel, by decide +kernel, by decide +kernel⟩
theorem mok_MS_canHang : MOK K_MS_canHang 2 := ⟨tb_at 2182 (by decide +kernel) (by decide +kernel), tb_at 139 (by decide +kernel) (by decide +kernel), by decide +kernel, by decide +kernel, by decide +kernel⟩
theorem mok_MS_next : MOK K_MS_next 1 := ⟨tb_at 2178 (by decide +kernel) (by decide +kernel), tb_at 139 (by decide +kernel) (by decide +kernel), by decide +kernel, by decide +kernel, by decide +kernel⟩
theorem mok_MS_hang : MOK K_MS_hang 2 := ⟨tb_at 2186 (by decide +kernel) (by decide +kernel), tb_at 139 (by decide +kernel) (by decide +kernel), by decide +kernel, by decide +kernel, by decide +kernel⟩
theorem mok_MS_order : MOK K_MS_order 1 := ⟨tb_at 2162 (by decide +kernel) (by decide +kernel), tb_at 139 (by decide +kernel) (by decide +kernel), by decide +kernel, by decide +kernel, by decide +kernel⟩
theorem mok_MS_holds : MOK K_MS_holds 1 := ⟨tb_at 2145 (by decide +kernel) (by decide +kernel), tb_at 139 (by decide +kernel) (by decide +kernel), by decide +kernel, by decide +kernel, by decide +kernel⟩
theorem mok_MS_pass : MOK K_MS_pass 0 := ⟨tb_at 2141 (by decide +kernel) (by decide +kernel), tb_at 139 (by decide +kernel) (by decide +kernel), by decide +kernel, by decide +kernel, by decide +kernel⟩
theorem mok_MS_pass_ : MOK K_MS_pass_ 1 := ⟨tb_at 2137 (by decide +kernel) (by decide +kernel), tb_at 139 (by decide +kernel) (by decide +kernel), by decide +kernel, by decide +kernel, by decide +kernel⟩
theorem mok_MS_known : MOK K_MS_known 1 := ⟨tb_at 1998 (by decide +kernel) (by decide +kernel), tb_at 139 (by decide +kernel) (by decide +kernel), by decide +kernel, by decide +kernel, by decide +kernel⟩
theorem mok_MS_allKnown : MOK K_MS_allKnown 0 := ⟨tb_at 2221 (by decide +kernel) (by decide +kernel), tb_at 139 (by decide +kernel) (by decide +kernel), by decide +kernel, by decide +kernel, by decide +kernel⟩
theorem mok_MS_noticesOf : MOK K_MS_noticesOf 2 := ⟨tb_at 1974 (by decide +kernel) (by decide +kernel), tb_at 139 (by decide +kernel) (by decide +kernel), by decide +kernel, by decide +kernel, by decide +kernel⟩
theorem mok_MS_underWay : MOK K_MS_underWay 1 := ⟨tb_at 1963 (by decide +kernel) (by decide +kernel), tb_at 139 (by decide +kernel) (by decide +kernel), by decide +kernel, by decide +kernel, by decide +kernel⟩
theorem mok_MS_counted : MOK K_MS_counted 1 := ⟨tb_at 1959 (by decide +kernel) (by decide +kernel), tb_at 139 (by decide +kernel) (by decide +kernel), by decide +kernel, by decide +kernel, by decide +kernel⟩
theorem mok_MS_carryOut : MOK K_MS_carryOut 2 := ⟨tb_at 2149 (by decide +kernel) (by decide +kernel), tb_at 139 (by decide +kernel) (by decide +kernel), by decide +kernel, by decide +kernel, by decide +kernel⟩
theorem mok_MS_pushed : MOK K_MS_pushed 3 := ⟨tb_at 2154 (by decide +kernel) (by decide +kernel), tb_at 139 (by decide +kernel) (by decide +kernel), by decide +kernel, by decide +kernel, by decide +kernel⟩
theorem mok_MM_init : MOK K_MM_init 0 := ⟨tb_at 1455 (by decide +kernel) (by decide +kernel), tb_at 137 (by decide +kernel) (by decide +kernel), by decide +kernel, by decide +kernel, by decide +kernel⟩
theorem mok_MM_thrown : MOK K_MM_thrown 0 := ⟨tb_at 1697 (by decide +kernel) (by decide +kernel), tb_at 137 (by decide +kernel) (by decide +kernel), by decide +kernel, by decide +kernel, by decide +kernel⟩
theorem mok_MM_no : MOK K_MM_no 1 := ⟨tb_at 1705 (by decide +kernel) (by decide +kernel), tb_at 137 (by decide +kernel) (by decide +kernel), by decide +kernel, by decide +kernel, by decide +kernel⟩
theorem mok_MM_bits : MOK K_MM_bits 1 := ⟨tb_at 1966 (by decide +kernel) (by decide +kernel), tb_at 137 (by decide +kernel) (by decide +kernel), by decide +kernel, by decide +kernel, by decide +kernel⟩
theorem mok_MM_isIn : MOK K_MM_isIn 3 := ⟨tb_at 1712 (by decide +kernel) (by decide +kernel), tb_at 137 (by decide +kernel) (by decide +kernel), by decide +kernel, by decide +kernel, by decide +kernel⟩
theorem mok_MM_isParish : MOK K_MM_isParish 1 := ⟨tb_at 1990 (by decide +kernel) (by decide +kernel), tb_at 137 (by decide +kernel) (by decide +kernel), by decide +kernel, by decide +kernel, by decide +kernel⟩
theorem mok_MM_isNotice : MOK K_MM_isNotice 2 := ⟨tb_at 2051 (by decide +kernel) (by decide +kernel), tb_at 137 (by decide +kernel) (by decide +kernel), by decide +kernel, by decide +kernel, by decide +kernel⟩
theorem mok_MM_isRoad : MOK K_MM_isRoad 1 := ⟨tb_at 2072 (by decide +kernel) (by decide +kernel), tb_at 137 (by decide +kernel) (by decide +kernel), by decide +kernel, by decide +kernel, by decide +kernel⟩
theorem mok_MM_isSheet : MOK K_MM_isSheet 1 := ⟨tb_at 2021 (by decide +kernel) (by decide +kernel), tb_at 137 (by decide +kernel) (by decide +kernel), by decide +kernel, by decide +kernel, by decide +kernel⟩
theorem mok_MM_both : MOK K_MM_both 3 := ⟨tb_at 2157 (by decide +kernel) (by decide +kernel), tb_at 137 (by decide +kernel) (by decide +kernel), by decide +kernel, by decide +kernel, by decide +kernel⟩
theorem mok_MM_isLetter : MOK K_MM_isLetter 1 := ⟨tb_at 1735 (by decide +kernel) (by decide +kernel), tb_at 137 (by decide +kernel) (by decide +kernel), by decide +kernel, by decide +kernel, by decide +kernel⟩
theorem mok_MM_isDigit : MOK K_MM_isDigit 1 := ⟨tb_at 1738 (by decide +kernel) (by decide +kernel), tb_at 137 (by decide +kernel) (by decide +kernel), by decide +kernel, by decide +kernel, by decide +kernel⟩
theorem mok_MM_byteOf : MOK K_MM_byteOf 1 := ⟨tb_at 1728 (by decide +kernel) (by decide +kernel), tb_at 137 (by decide +kernel) (by decide +kernel), by decide +kernel, by decide +kernel, by decide +kernel⟩
theorem mok_MM_kindAt : MOK K_MM_kindAt 2 := ⟨tb_at 1732 (by decide +kernel) (by decide +kernel), tb_at 137 (by decide +kernel) (by decide +kernel), by decide +kernel, by decide +kernel, by decide +kernel⟩
theorem mok_MM_word : MOK K_MM_word 2 := ⟨tb_at 1742 (by decide +kernel) (by decide +kernel), tb_at 137 (by decide +kernel) (by decide +kernel), by decide +kernel, by decide +kernel, by decide +kernel⟩
theorem mok_MM_cut : MOK K_MM_cut 0 := ⟨tb_at 1724 (by decide +kernel) (by decide +kernel), tb_at 137 (by decide +kernel) (by decide +kernel), by decide +kernel, by decide +kernel, by decide +kernel⟩
theorem mok_MM_is : MOK K_MM_is 1 := ⟨tb_at 1810 (by decide +kernel) (by decide +kernel), tb_at 137 (by decide +kernel) (by decide +kernel), by decide +kernel, by decide +kernel, by decide +kernel⟩
theorem mok_MM_isSign : MOK K_MM_isSign 1 := ⟨tb_at 1863 (by decide +kernel) (by decide +kernel), tb_at 137 (by decide +kernel) (by decide +kernel), by decide +kernel, by decide +kernel, by decide +kernel⟩
theorem mok_MM_eat : MOK K_MM_eat 1 := ⟨tb_at 1822 (by decide +kernel) (by decide +kernel), tb_at 137 (by decide +kernel) (by decide +kernel), by decide +kernel, by decide +kernel, by decide +kernel⟩
theorem mok_MM_eatSign : MOK K_MM_eatSign 1 := ⟨tb_at 1875 (by decide +kernel) (by decide +kernel), tb_at 137 (by decide +kernel) (by decide +kernel), by decide +kernel, by decide +kernel, by decide +kernel⟩
theorem mok_MM_eatAs : MOK K_MM_eatAs 2 := ⟨tb_at 1818 (by decide +kernel) (by decide +kernel), tb_at 137 (by decide +kernel) (by decide +kernel), by decide +kernel, by decide +kernel, by decide +kernel⟩
theorem mok_MM_put : MOK K_MM_put 1 := ⟨tb_at 1847 (by decide +kernel) (by decide +kernel), tb_at 137 (by decide +kernel) (by decide +kernel), by decide +kernel, by decide +kernel, by decide +kernel⟩
theorem mok_MM_isPlan : MOK K_MM_isPlan 0 := ⟨tb_at 1806 (by decide +kernel) (by decide +kernel), tb_at 137 (by decide +kernel) (by decide +kernel), by decide +kernel, by decide +kernel, by decide +kernel⟩
theorem mok_MM_isNew : MOK K_MM_isNew 1 := ⟨tb_at 1814 (by decide +kernel) (by decide +kernel), tb_at 137 (by decide +kernel) (by decide +kernel), by decide +kernel, by decide +kernel, by decide +kernel⟩
theorem mok_MM_isRoadLine : MOK K_MM_isRoadLine 0 := ⟨tb_at 1826 (by decide +kernel) (by decide +kernel), tb_at 137 (by decide +kernel) (by decide +kernel), by decide +kernel, by decide +kernel, by decide +kernel⟩
theorem mok_MM_isOrderLine : MOK K_MM_isOrderLine 0 := ⟨tb_at 1830 (by decide +kernel) (by decide +kernel), tb_at 137 (by decide +kernel) (by decide +kernel), by decide +kernel, by decide +kernel, by decide +kernel⟩
theorem mok_MM_isWay : MOK K_MM_isWay 0 := ⟨tb_at 1879 (by decide +kernel) (by decide +kernel), tb_at 137 (by decide +kernel) (by decide +kernel), by decide +kernel, by decide +kernel, by decide +kernel⟩
theorem mok_MM_isTest : MOK K_MM_isTest 0 := ⟨tb_at 1883 (by decide +kernel) (by decide +kernel), tb_at 137 (by decide +kernel) (by decide +kernel), by decide +kernel, by decide +kernel, by decide +kernel⟩
theorem mok_MM_isBoth : MOK K_MM_isBoth 0 := ⟨tb_at 1887 (by decide +kernel) (by decide +kernel), tb_at 137 (by decide +kernel) (by decide +kernel), by decide +kernel, by decide +kernel, by decide +kernel⟩
theorem mok_MM_isDeeper : MOK K_MM_isDeeper 0 := ⟨tb_at 1867 (by decide +kernel) (by decide +kernel), tb_at 137 (by decide +kernel) (by decide +kernel), by decide +kernel, by decide +kernel, by decide +kernel⟩
theorem mok_MM_isName : MOK K_MM_isName 1 := ⟨tb_at 1859 (by decide +kernel) (by decide +kernel), tb_at 137 (by decide +kernel) (by decide +kernel), by decide +kernel, by decide +kernel, by decide +kernel⟩
theorem mok_MM_isNamed : MOK K_MM_isNamed 1 := ⟨tb_at 1855 (by decide +kernel) (by decide +kernel), tb_at 137 (by decide +kernel) (by decide +kernel), by decide +kernel, by decide +kernel, by decide +kernel⟩
theorem mok_MM_isSingle : MOK K_MM_isSingle 0 := ⟨tb_at 1891 (by decide +kernel) (by decide +kernel), tb_at 137 (by decide +kernel) (by decide +kernel), by decide +kernel, by decide +kernel, by decide +kernel⟩
theorem mok_MM_isSum : MOK K_MM_isSum 0 := ⟨tb_at 1835 (by decide +kernel) (by decide +kernel), tb_at 137 (by decide +kernel) (by decide +kernel), by decide +kernel, by decide +kernel, by decide +kernel⟩
theorem mok_MM_isProduct : MOK K_MM_isProduct 0 := ⟨tb_at 1839 (by decide +kernel) (by decide +kernel), tb_at 137 (by decide +kernel) (by decide +kernel), by decide +kernel, by decide +kernel, by decide +kernel⟩
theorem mok_MM_isInside : MOK K_MM_isInside 2 := ⟨tb_at 1871 (by decide +kernel) (by decide +kernel), tb_at 137 (by decide +kernel) (by decide +kernel), by decide +kernel, by decide +kernel, by decide +kernel⟩
theorem mok_MM_isValue : MOK K_MM_isValue 0 := ⟨tb_at 1843 (by decide +kernel) (by decide +kernel), tb_at 137 (by decide +kernel) (by decide +kernel), by decide +kernel, by decide +kernel, by decide +kernel⟩
theorem mok_MM_numberAt : MOK K_MM_numberAt 1 := ⟨tb_at 1851 (by decide +kernel) (by decide +kernel), tb_at 137 (by decide +kernel) (by decide +kernel), by decide +kernel, by decide +kernel, by decide +kernel⟩
theorem mok_MM_isSame : MOK K_MM_isSame 2 := ⟨tb_at 1911 (by decide +kernel) (by decide +kernel), tb_at 137 (by decide +kernel) (by decide +kernel), by decide +kernel, by decide +kernel, by decide +kernel⟩
theorem mok_MM_told : MOK K_MM_told 2 := ⟨tb_at 1907 (by decide +kernel) (by decide +kernel), tb_at 137 (by decide +kernel) (by decide +kernel), by decide +kernel, by decide +kernel, by decide +kernel⟩
theorem mok_MM_look : MOK K_MM_look 2 := ⟨tb_at 1927 (by decide +kernel) (by decide +kernel), tb_at 137 (by decide +kernel) (by decide +kernel), by decide +kernel, by decide +kernel, by decide +kernel⟩
theorem mok_MM_isNew_ : MOK K_MM_isNew_ 3 := ⟨tb_at 1903 (by decide +kernel) (by decide +kernel), tb_at 137 (by decide +kernel) (by decide +kernel), by decide +kernel, by decide +kernel, by decide +kernel⟩
theorem mok_MM_inRange : MOK K_MM_inRange 3 := ⟨tb_at 1939 (by decide +kernel) (by decide +kernel), tb_at 137 (by decide +kernel) (by decide +kernel), by decide +kernel, by decide +kernel, by decide +kernel⟩
theorem mok_MM_newParish : MOK K_MM_newParish 1 := ⟨tb_at 1899 (by decide +kernel) (by decide +kernel), tb_at 137 (by decide +kernel) (by decide +kernel), by decide +kernel, by decide +kernel, by decide +kernel⟩
theorem mok_MM_newNotice : MOK K_MM_newNotice 1 := ⟨tb_at 1915 (by decide +kernel) (by decide +kernel), tb_at 137 (by decide +kernel) (by decide +kernel), by decide +kernel, by decide +kernel, by decide +kernel⟩
theorem mok_MM_newRoad : MOK K_MM_newRoad 1 := ⟨tb_at 1919 (by decide +kernel) (by decide +kernel), tb_at 137 (by decide +kernel) (by decide +kernel), by decide +kernel, by decide +kernel, by decide +kernel⟩
theorem mok_MM_order : MOK K_MM_order 1 := ⟨tb_at 1943 (by decide +kernel) (by decide +kernel), tb_at 137 (by decide +kernel) (by decide +kernel), by decide +kernel, by decide +kernel, by decide +kernel⟩
theorem mok_MM_named : MOK K_MM_named 4 := ⟨tb_at 1923 (by decide +kernel) (by decide +kernel), tb_at 137 (by decide +kernel) (by decide +kernel), by decide +kernel, by decide +kernel, by decide +kernel⟩
theorem mok_MM_whither : MOK K_MM_whither 1 := ⟨tb_at 1931 (by decide +kernel) (by decide +kernel), tb_at 137 (by decide +kernel) (by decide +kernel), by decide +kernel, by decide +kernel, by decide +kernel⟩
theorem mok_MM_daysOf : MOK K_MM_daysOf 1 := ⟨tb_at 1935 (by decide +kernel) (by decide +kernel), tb_at 137 (by decide +kernel) (by decide +kernel), by decide +kernel, by decide +kernel, by decide +kernel⟩
theorem mok_MM_errorOf : MOK K_MM_errorOf 1 := ⟨tb_at 1895 (by decide +kernel) (by decide +kernel), tb_at 137 (by decide +kernel) (by decide +kernel), by decide +kernel, by decide +kernel, by decide +kernel⟩
theorem mok_MM_read : MOK K_MM_read 0 := ⟨tb_at 1720 (by decide +kernel) (by decide +kernel), tb_at 137 (by decide +kernel) (by decide +kernel), by decide +kernel, by decide +kernel, by decide +kernel⟩
theorem mok_MM_feed : MOK K_MM_feed 5 := ⟨tb_at 1701 (by decide +kernel) (by decide +kernel), tb_at 137 (by decide +kernel) (by decide +kernel), by decide +kernel, by decide +kernel, by decide +kernel⟩
theorem mok_MM_trim : MOK K_MM_trim 1 := ⟨tb_at 1709 (by decide +kernel) (by decide +kernel), tb_at 137 (by decide +kernel) (by decide +kernel), by decide +kernel, by decide +kernel, by decide +kernel⟩
theorem mok_MM_teach : MOK K_MM_teach 0 := ⟨tb_at 1716 (by decide +kernel) (by decide +kernel), tb_at 137 (by decide +kernel) (by decide +kernel), by decide +kernel, by decide +kernel, by decide +kernel⟩
theorem mok_MM_errorAt : MOK K_MM_errorAt 0 := ⟨tb_at 1947 (by decide +kernel) (by decide +kernel), tb_at 137 (by decide +kernel) (by decide +kernel), by decide +kernel, by decide +kernel, by decide +kernel⟩
theorem mok_MM_counted : MOK K_MM_counted 1 := ⟨tb_at 1955 (by decide +kernel) (by decide +kernel), tb_at 137 (by decide +kernel) (by decide +kernel), by decide +kernel, by decide +kernel, by decide +kernel⟩
theorem mok_MM_count : MOK K_MM_count 1 := ⟨tb_at 1951 (by decide +kernel) (by decide +kernel), tb_at 137 (by decide +kernel) (by decide +kernel), by decide +kernel, by decide +kernel, by decide +kernel⟩
theorem mok_MM_roadsFrom : MOK K_MM_roadsFrom 1 := ⟨tb_at 2009 (by decide +kernel) (by decide +kernel), tb_at 137 (by decide +kernel) (by decide +kernel), by decide +kernel, by decide +kernel, by decide +kernel⟩
theorem mok_MM_parishTold : MOK K_MM_parishTold 2 := ⟨tb_at 1994 (by decide +kernel) (by decide +kernel), tb_at 137 (by decide +kernel) (by decide +kernel), by decide +kernel, by decide +kernel, by decide +kernel⟩
theorem mok_MM_parish : MOK K_MM_parish 2 := ⟨tb_at 1986 (by decide +kernel) (by decide +kernel), tb_at 137 (by decide +kernel) (by decide +kernel), by decide +kernel, by decide +kernel, by decide +kernel⟩
theorem mok_MM_knows : MOK K_MM_knows 2 := ⟨tb_at 2013 (by decide +kernel) (by decide +kernel), tb_at 137 (by decide +kernel) (by decide +kernel), by decide +kernel, by decide +kernel, by decide +kernel⟩
theorem mok_MM_boards : MOK K_MM_boards 2 := ⟨tb_at 2029 (by decide +kernel) (by decide +kernel), tb_at 137 (by decide +kernel) (by decide +kernel), by decide +kernel, by decide +kernel, by decide +kernel⟩
theorem mok_MM_sheetTold : MOK K_MM_sheetTold 2 := ⟨tb_at 2025 (by decide +kernel) (by decide +kernel), tb_at 137 (by decide +kernel) (by decide +kernel), by decide +kernel, by decide +kernel, by decide +kernel⟩
theorem mok_MM_sheet : MOK K_MM_sheet 2 := ⟨tb_at 2017 (by decide +kernel) (by decide +kernel), tb_at 137 (by decide +kernel) (by decide +kernel), by decide +kernel, by decide +kernel, by decide +kernel⟩
theorem mok_MM_stamp : MOK K_MM_stamp 2 := ⟨tb_at 2042 (by decide +kernel) (by decide +kernel), tb_at 137 (by decide +kernel) (by decide +kernel), by decide +kernel, by decide +kernel, by decide +kernel⟩
theorem mok_MM_shown : MOK K_MM_shown 3 := ⟨tb_at 2047 (by decide +kernel) (by decide +kernel), tb_at 137 (by decide +kernel) (by decide +kernel), by decide +kernel, by decide +kernel, by decide +kernel⟩
theorem mok_MM_compare : MOK K_MM_compare 2 := ⟨tb_at 2060 (by decide +kernel) (by decide +kernel), tb_at 137 (by decide +kernel) (by decide +kernel), by decide +kernel, by decide +kernel, by decide +kernel⟩
theorem mok_MM_roadTold : MOK K_MM_roadTold 2 := ⟨tb_at 2076 (by decide +kernel) (by decide +kernel), tb_at 137 (by decide +kernel) (by decide +kernel), by decide +kernel, by decide +kernel, by decide +kernel⟩
theorem mok_MM_road : MOK K_MM_road 2 := ⟨tb_at 2068 (by decide +kernel) (by decide +kernel), tb_at 137 (by decide +kernel) (by decide +kernel), by decide +kernel, by decide +kernel, by decide +kernel⟩
theorem mok_MM_write : MOK K_MM_write 3 := ⟨tb_at 2081 (by decide +kernel) (by decide +kernel), tb_at 137 (by decide +kernel) (by decide +kernel), by decide +kernel, by decide +kernel, by decide +kernel⟩
theorem mok_MM_note : MOK K_MM_note 3 := ⟨tb_at 2098 (by decide +kernel) (by decide +kernel), tb_at 137 (by decide +kernel) (by decide +kernel), by decide +kernel, by decide +kernel, by decide +kernel⟩
theorem mok_MM_merge : MOK K_MM_merge 3 := ⟨tb_at 2112 (by decide +kernel) (by decide +kernel), tb_at 137 (by decide +kernel) (by decide +kernel), by decide +kernel, by decide +kernel, by decide +kernel⟩
theorem mok_MM_send : MOK K_MM_send 1 := ⟨tb_at 2120 (by decide +kernel) (by decide +kernel), tb_at 137 (by decide +kernel) (by decide +kernel), by decide +kernel, by decide +kernel, by decide +kernel⟩
theorem mok_MM_setDays : MOK K_MM_setDays 2 := ⟨tb_at 2129 (by decide +kernel) (by decide +kernel), tb_at 137 (by decide +kernel) (by decide +kernel), by decide +kernel, by decide +kernel, by decide +kernel⟩
theorem mok_MM_pass : MOK K_MM_pass 1 := ⟨tb_at 2133 (by decide +kernel) (by decide +kernel), tb_at 137 (by decide +kernel) (by decide +kernel), by decide +kernel, by decide +kernel, by decide +kernel⟩
theorem mok_MM_foresee : MOK K_MM_foresee 2 := ⟨tb_at 2192 (by decide +kernel) (by decide +kernel), tb_at 137 (by decide +kernel) (by decide +kernel), by decide +kernel, by decide +kernel, by decide +kernel⟩
theorem mok_MM_until : MOK K_MM_until 2 := ⟨tb_at 2204 (by decide +kernel) (by decide +kernel), tb_at 137 (by decide +kernel) (by decide +kernel), by decide +kernel, by decide +kernel, by decide +kernel⟩
theorem mok_MM_alike : MOK K_MM_alike 0 := ⟨tb_at 2209 (by decide +kernel) (by decide +kernel), tb_at 137 (by decide +kernel) (by decide +kernel), by decide +kernel, by decide +kernel, by decide +kernel⟩
theorem mok_MM_missed : MOK K_MM_missed 0 := ⟨tb_at 2213 (by decide +kernel) (by decide +kernel), tb_at 137 (by decide +kernel) (by decide +kernel), by decide +kernel, by decide +kernel, by decide +kernel⟩
theorem mok_MM_advise : MOK K_MM_advise 1 := ⟨tb_at 2217 (by decide +kernel) (by decide +kernel), tb_at 137 (by decide +kernel) (by decide +kernel), by decide +kernel, by decide +kernel, by decide +kernel⟩
theorem mok_MM_mean : MOK K_MM_mean 0 := ⟨tb_at 2226 (by decide +kernel) (by decide +kernel), tb_at 137 (by decide +kernel) (by decide +kernel), by decide +kernel, by decide +kernel, by decide +kernel⟩
theorem mok_MM_digest : MOK K_MM_digest 0 := ⟨tb_at 2230 (by decide +kernel) (by decide +kernel), tb_at 137 (by decide +kernel) (by decide +kernel), by decide +kernel, by decide +kernel, by decide +kernel⟩
theorem mok_En_ordinal_8abf5 : MOK K_En_ordinal_8abf5 0 := ⟨tb_at 673 (by decide +kernel) (by decide +kernel), tb_at 129 (by decide +kernel) (by decide +kernel), by decide +kernel, by decide +kernel, by decide +kernel⟩
theorem mok_JI_bitCount_0f7a4 : MOK K_JI_bitCount_0f7a4 1 := ⟨tb_at 1285 (by decide +kernel) (by decide +kernel), tb_at 154 (by decide +kernel) (by decide +kernel), by decide +kernel, by decide +kernel, by decide +kernel⟩
theorem mok_JM_max_7cf53 : MOK K_JM_max_7cf53 2 := ⟨tb_at 1311 (by decide +kernel) (by decide +kernel), tb_at 151 (by decide +kernel) (by decide +kernel), by decide +kernel, by decide +kernel, by decide +kernel⟩
theorem mok_JM_min_7cf53 : MOK K_JM_min_7cf53 2 := ⟨tb_at 1308 (by decide +kernel) (by decide +kernel), tb_at 151 (by decide +kernel) (by decide +kernel), by decide +kernel, by decide +kernel, by decide +kernel⟩
theorem mok_Str_length_8abf5 : MOK K_Str_length_8abf5 0 := ⟨tb_at 582 (by decide +kernel) (by decide +kernel), tb_at 146 (by decide +kernel) (by decide +kernel), by decide +kernel, by decide +kernel, by decide +kernel⟩
theorem mok_Str_charAt_5068e : MOK K_Str_charAt_5068e 1 := ⟨tb_at 596 (by decide +kernel) (by decide +kernel), tb_at 146 (by decide +kernel) (by decide +kernel), by decide +kernel, by decide +kernel, by decide +kernel⟩
theorem mok_Str_indexOf_0f7a4 : MOK K_Str_indexOf_0f7a4 1 := ⟨tb_at 1751 (by decide +kernel) (by decide +kernel), tb_at 146 (by decide +kernel) (by decide +kernel), by decide +kernel, by decide +kernel, by decide +kernel⟩
theorem mok_Str_indexOf_7cf53 : MOK K_Str_indexOf_7cf53 2 := ⟨tb_at 1755 (by decide +kernel) (by decide +kernel), tb_at 146 (by decide +kernel) (by decide +kernel), by decide +kernel, by decide +kernel, by decide +kernel⟩
theorem mok_Str_coder_7d493 : MOK K_Str_coder_7d493 0 := ⟨tb_at 586 (by decide +kernel) (by decide +kernel), tb_at 146 (by decide +kernel) (by decide +kernel), by decide +kernel, by decide +kernel, by decide +kernel⟩
theorem mok_Str_isLatin1_aae02 : MOK K_Str_isLatin1_aae02 0 := ⟨tb_at 600 (by decide +kernel) (by decide +kernel), tb_at 146 (by decide +kernel) (by decide +kernel), by decide +kernel, by decide +kernel, by decide +kernel⟩
theorem mok_Str_checkIndex_df160 : MOK K_Str_checkIndex_df160 2 := ⟨tb_at 606 (by decide +kernel) (by decide +kernel), tb_at 146 (by decide +kernel) (by decide +kernel), by decide +kernel, by decide +kernel, by decide +kernel⟩
theorem mok_SL_charAt_3b067 : MOK K_SL_charAt_3b067 2 := ⟨tb_at 603 (by decide +kernel) (by decide +kernel), tb_at 147 (by decide +kernel) (by decide +kernel), by decide +kernel, by decide +kernel, by decide +kernel⟩
theorem mok_SL_canEncode_9a6ad : MOK K_SL_canEncode_9a6ad 1 := ⟨tb_at 1762 (by decide +kernel) (by decide +kernel), tb_at 147 (by decide +kernel) (by decide +kernel), by decide +kernel, by decide +kernel, by decide +kernel⟩
theorem mok_SL_indexOf_4cfef : MOK K_SL_indexOf_4cfef 4 := ⟨tb_at 1759 (by decide +kernel) (by decide +kernel), tb_at 147 (by decide +kernel) (by decide +kernel), by decide +kernel, by decide +kernel, by decide +kernel⟩
theorem mok_SL_indexOfChar_4cfef : MOK K_SL_indexOfChar_4cfef 4 := ⟨tb_at 1767 (by decide +kernel) (by decide +kernel), tb_at 147 (by decide +kernel) (by decide +kernel), by decide +kernel, by decide +kernel, by decide +kernel⟩
theorem mok_Pre_checkIndex_8e157 : MOK K_Pre_checkIndex_8e157 3 := ⟨tb_at 611 (by decide +kernel) (by decide +kernel), tb_at 148 (by decide +kernel) (by decide +kernel), by decide +kernel, by decide +kernel, by decide +kernel⟩
theorem fl_PB_9 : FLinkO "ParishBoards" 9 (T_PB 0) := Or.inl (tb_at 509 (by decide +kernel) (by decide +kernel))
theorem fl_PB_13 : FLinkO "ParishBoards" 13 (T_PB 1) := Or.inl (tb_at 510 (by decide +kernel) (by decide +kernel))
theorem fl_PB_17 : FLinkO "ParishBoards" 17 (T_PB 2) := Or.inl (tb_at 511 (by decide +kernel) (by decide +kernel))
theorem fl_PB_23 : FLinkO "ParishBoards" 23 (T_PB 3) := Or.inl (tb_at 512 (by decide +kernel) (by decide +kernel))
theorem fl_PB_27 : FLinkO "ParishBoards" 27 (T_PB 4) := Or.inl (tb_at 513 (by decide +kernel) (by decide +kernel))
theorem fl_PB_33 : FLinkO "ParishBoards" 33 (T_PB 5) := Or.inl (tb_at 514 (by decide +kernel) (by decide +kernel))
theorem fl_PB_42 : FLinkO "ParishBoards" 42 (T_PB 6) := Or.inl (tb_at 515 (by decide +kernel) (by decide +kernel))
theorem fl_PB_49 : FLinkO "ParishBoards" 49 (T_PB 7) := Or.inl (tb_at 516 (by decide +kernel) (by decide +kernel))
theorem fl_PB_58 : FLinkO "ParishBoards" 58 (T_PB 8) := Or.inl (tb_at 517 (by decide +kernel) (by decide +kernel))
theorem fl_PB_62 : FLinkO "ParishBoards" 62 (T_PB 9) := Or.inl (tb_at 518 (by decide +kernel) (by decide +kernel))
theorem fl_PB_99 : FLinkO "ParishBoards" 99 (T_Nm 7) := Or.inr ⟨"ParishBoards", tb_at 385 (by decide +kernel) (by decide +kernel)⟩
theorem fl_PB_125 : FLinkO "ParishBoards" 125 (T_Wd 1) := Or.inr ⟨"ParishBoards", tb_at 482 (by decide +kernel) (by decide +kernel)⟩
theorem fl_PB_129 : FLinkO "ParishBoards" 129 (T_Bd 0) := Or.inr ⟨"ParishBoards", tb_at 462 (by decide +kernel) (by decide +kernel)⟩
theorem fl_PB_145 : FLinkO "ParishBoards" 145 (T_Wd 0) := Or.inr ⟨"ParishBoards", tb_at 480 (by decide +kernel) (by decide +kernel)⟩
theorem fl_PB_149 : FLinkO "ParishBoards" 149 (T_Sh 0) := Or.inr ⟨"ParishBoards", tb_at 421 (by decide +kernel) (by decide +kernel)⟩
theorem fl_PB_221 : FLinkO "ParishBoards" 221 (T_Wd 2) := Or.inr ⟨"ParishBoards", tb_at 484 (by decide +kernel) (by decide +kernel)⟩
theorem fl_PB_225 : FLinkO "ParishBoards" 225 (T_Rd 3) := Or.inr ⟨"ParishBoards", tb_at 217 (by decide +kernel) (by decide +kernel)⟩
theorem fl_PB_230 : FLinkO "ParishBoards" 230 (T_Wd 6) := Or.inr ⟨"ParishBoards", tb_at 490 (by decide +kernel) (by decide +kernel)⟩
theorem fl_PB_250 : FLinkO "ParishBoards" 250 (T_Pl 3) := Or.inr ⟨"ParishBoards", tb_at 291 (by decide +kernel) (by decide +kernel)⟩
theorem fl_PB_257 : FLinkO "ParishBoards" 257 (T_Wd 5) := Or.inr ⟨"ParishBoards", tb_at 488 (by decide +kernel) (by decide +kernel)⟩
theorem fl_PB_263 : FLinkO "ParishBoards" 263 (T_Pl 5) := Or.inr ⟨"ParishBoards", tb_at 299 (by decide +kernel) (by decide +kernel)⟩
theorem fl_PB_289 : FLinkO "ParishBoards" 289 (T_Pl 4) := Or.inr ⟨"ParishBoards", tb_at 295 (by decide +kernel) (by decide +kernel)⟩
theorem fl_Bd_9 : FLinkO "ParishBoards$Board" 9 (T_Bd 0) := Or.inl (tb_at 460 (by decide +kernel) (by decide +kernel))
theorem fl_Bd_15 : FLinkO "ParishBoards$Board" 15 (T_Bd 1) := Or.inl (tb_at 463 (by decide +kernel) (by decide +kernel))
theorem fl_Bd_18 : FLinkO "ParishBoards$Board" 18 (T_Bd 2) := Or.inl (tb_at 464 (by decide +kernel) (by decide +kernel))
theorem fl_Bd_22 : FLinkO "ParishBoards$Board" 22 (T_Bd 3) := Or.inl (tb_at 466 (by decide +kernel) (by decide +kernel))
theorem fl_Bd_35 : FLinkO "ParishBoards$Board" 35 (T_Sh 1) := Or.inr ⟨"ParishBoards", tb_at 424 (by decide +kernel) (by decide +kernel)⟩
theorem fl_Bd_40 : FLinkO "ParishBoards$Board" 40 (T_Sh 0) := Or.inr ⟨"ParishBoards", tb_at 420 (by decide +kernel) (by decide +kernel)⟩
theorem fl_Cd_11 : FLinkO "ParishBoards$Code" 11 (T_Cd 0) := Or.inl (tb_at 177 (by decide +kernel) (by decide +kernel))
theorem fl_Cd_17 : FLinkO "ParishBoards$Code" 17 (T_Cd 1) := Or.inl (tb_at 178 (by decide +kernel) (by decide +kernel))
theorem fl_Cd_21 : FLinkO "ParishBoards$Code" 21 (T_Cd 2) := Or.inl (tb_at 179 (by decide +kernel) (by decide +kernel))
theorem fl_Cd_24 : FLinkO "ParishBoards$Code" 24 (T_Cd 3) := Or.inl (tb_at 180 (by decide +kernel) (by decide +kernel))
theorem fl_Cd_27 : FLinkO "ParishBoards$Code" 27 (T_Cd 4) := Or.inl (tb_at 181 (by decide +kernel) (by decide +kernel))
theorem fl_Cd_31 : FLinkO "ParishBoards$Code" 31 (T_Cd 5) := Or.inl (tb_at 184 (by decide +kernel) (by decide +kernel))
theorem fl_Gr_9 : FLinkO "ParishBoards$Grammar" 9 (T_Gr 2) := Or.inl (tb_at 360 (by decide +kernel) (by decide +kernel))
theorem fl_Gr_21 : FLinkO "ParishBoards$Grammar" 21 (T_Gr 3) := Or.inl (tb_at 361 (by decide +kernel) (by decide +kernel))
theorem fl_Gr_24 : FLinkO "ParishBoards$Grammar" 24 (T_Gr 0) := Or.inl (tb_at 358 (by decide +kernel) (by decide +kernel))
theorem fl_Gr_28 : FLinkO "ParishBoards$Grammar" 28 (T_Gr 1) := Or.inl (tb_at 359 (by decide +kernel) (by decide +kernel))
theorem fl_Gr_92 : FLinkO "ParishBoards$Grammar" 92 (T_Od 0) := Or.inr ⟨"ParishBoards", tb_at 239 (by decide +kernel) (by decide +kernel)⟩
theorem fl_Gr_97 : FLinkO "ParishBoards$Grammar" 97 (T_Od 1) := Or.inr ⟨"ParishBoards", tb_at 242 (by decide +kernel) (by decide +kernel)⟩
theorem fl_Gr_100 : FLinkO "ParishBoards$Grammar" 100 (T_Pl 0) := Or.inr ⟨"ParishBoards", tb_at 281 (by decide +kernel) (by decide +kernel)⟩
theorem fl_Gr_104 : FLinkO "ParishBoards$Grammar" 104 (T_Cd 4) := Or.inr ⟨"ParishBoards", tb_at 183 (by decide +kernel) (by decide +kernel)⟩
theorem fl_Gr_109 : FLinkO "ParishBoards$Grammar" 109 (T_Od 6) := Or.inr ⟨"ParishBoards", tb_at 253 (by decide +kernel) (by decide +kernel)⟩
theorem fl_Gr_140 : FLinkO "ParishBoards$Grammar" 140 (T_Od 5) := Or.inr ⟨"ParishBoards", tb_at 250 (by decide +kernel) (by decide +kernel)⟩
theorem fl_Gr_143 : FLinkO "ParishBoards$Grammar" 143 (T_Od 7) := Or.inr ⟨"ParishBoards", tb_at 256 (by decide +kernel) (by decide +kernel)⟩
theorem fl_Gr_152 : FLinkO "ParishBoards$Grammar" 152 (T_Od 8) := Or.inr ⟨"ParishBoards", tb_at 259 (by decide +kernel) (by decide +kernel)⟩
theorem fl_Gr_235 : FLinkO "ParishBoards$Grammar" 235 (T_Tk 4) := Or.inr ⟨"ParishBoards", tb_at 331 (by decide +kernel) (by decide +kernel)⟩
theorem fl_Gr_236 : FLinkO "ParishBoards$Grammar" 236 (T_Tk 0) := Or.inr ⟨"ParishBoards", tb_at 325 (by decide +kernel) (by decide +kernel)⟩
theorem fl_Nm_9 : FLinkO "ParishBoards$Names" 9 (T_Nm 0) := Or.inl (tb_at 377 (by decide +kernel) (by decide +kernel))
theorem fl_Nm_15 : FLinkO "ParishBoards$Names" 15 (T_Nm 1) := Or.inl (tb_at 378 (by decide +kernel) (by decide +kernel))
theorem fl_Nm_18 : FLinkO "ParishBoards$Names" 18 (T_Nm 2) := Or.inl (tb_at 379 (by decide +kernel) (by decide +kernel))
theorem fl_Nm_21 : FLinkO "ParishBoards$Names" 21 (T_Nm 5) := Or.inl (tb_at 382 (by decide +kernel) (by decide +kernel))
theorem fl_Nm_25 : FLinkO "ParishBoards$Names" 25 (T_Nm 6) := Or.inl (tb_at 383 (by decide +kernel) (by decide +kernel))
theorem fl_Nm_28 : FLinkO "ParishBoards$Names" 28 (T_Nm 7) := Or.inl (tb_at 384 (by decide +kernel) (by decide +kernel))
theorem fl_Nm_31 : FLinkO "ParishBoards$Names" 31 (T_Nm 3) := Or.inl (tb_at 380 (by decide +kernel) (by decide +kernel))
theorem fl_Nm_35 : FLinkO "ParishBoards$Names" 35 (T_Nm 4) := Or.inl (tb_at 381 (by decide +kernel) (by decide +kernel))
theorem fl_Nm_39 : FLinkO "ParishBoards$Names" 39 (T_Tk 4) := Or.inr ⟨"ParishBoards", tb_at 330 (by decide +kernel) (by decide +kernel)⟩
theorem fl_Nm_64 : FLinkO "ParishBoards$Names" 64 (T_Pl 3) := Or.inr ⟨"ParishBoards", tb_at 290 (by decide +kernel) (by decide +kernel)⟩
theorem fl_Nm_72 : FLinkO "ParishBoards$Names" 72 (T_Pl 4) := Or.inr ⟨"ParishBoards", tb_at 293 (by decide +kernel) (by decide +kernel)⟩
theorem fl_Nm_74 : FLinkO "ParishBoards$Names" 74 (T_Pl 5) := Or.inr ⟨"ParishBoards", tb_at 298 (by decide +kernel) (by decide +kernel)⟩
theorem fl_Nm_114 : FLinkO "ParishBoards$Names" 114 (T_Pl 1) := Or.inr ⟨"ParishBoards", tb_at 285 (by decide +kernel) (by decide +kernel)⟩
theorem fl_Od_15 : FLinkO "ParishBoards$Order" 15 (T_Od 0) := Or.inl (tb_at 238 (by decide +kernel) (by decide +kernel))
theorem fl_Od_20 : FLinkO "ParishBoards$Order" 20 (T_Od 1) := Or.inl (tb_at 241 (by decide +kernel) (by decide +kernel))
theorem fl_Od_24 : FLinkO "ParishBoards$Order" 24 (T_Od 2) := Or.inl (tb_at 243 (by decide +kernel) (by decide +kernel))
theorem fl_Od_27 : FLinkO "ParishBoards$Order" 27 (T_Od 3) := Or.inl (tb_at 245 (by decide +kernel) (by decide +kernel))
theorem fl_Od_30 : FLinkO "ParishBoards$Order" 30 (T_Od 4) := Or.inl (tb_at 247 (by decide +kernel) (by decide +kernel))
theorem fl_Od_33 : FLinkO "ParishBoards$Order" 33 (T_Od 5) := Or.inl (tb_at 249 (by decide +kernel) (by decide +kernel))
theorem fl_Od_36 : FLinkO "ParishBoards$Order" 36 (T_Od 6) := Or.inl (tb_at 252 (by decide +kernel) (by decide +kernel))
theorem fl_Od_39 : FLinkO "ParishBoards$Order" 39 (T_Od 7) := Or.inl (tb_at 255 (by decide +kernel) (by decide +kernel))
theorem fl_Od_42 : FLinkO "ParishBoards$Order" 42 (T_Od 8) := Or.inl (tb_at 258 (by decide +kernel) (by decide +kernel))
theorem fl_Pl_12 : FLinkO "ParishBoards$Plan" 12 (T_Pl 0) := Or.inl (tb_at 280 (by decide +kernel) (by decide +kernel))
theorem fl_Pl_20 : FLinkO "ParishBoards$Plan" 20 (T_Pl 1) := Or.inl (tb_at 283 (by decide +kernel) (by decide +kernel))
theorem fl_Pl_26 : FLinkO "ParishBoards$Plan" 26 (T_Pl 2) := Or.inl (tb_at 286 (by decide +kernel) (by decide +kernel))
theorem fl_Pl_30 : FLinkO "ParishBoards$Plan" 30 (T_Pl 3) := Or.inl (tb_at 288 (by decide +kernel) (by decide +kernel))
theorem fl_Pl_34 : FLinkO "ParishBoards$Plan" 34 (T_Pl 4) := Or.inl (tb_at 292 (by decide +kernel) (by decide +kernel))
theorem fl_Pl_37 : FLinkO "ParishBoards$Plan" 37 (T_Pl 5) := Or.inl (tb_at 296 (by decide +kernel) (by decide +kernel))
theorem fl_Pl_40 : FLinkO "ParishBoards$Plan" 40 (T_Pl 6) := Or.inl (tb_at 300 (by decide +kernel) (by decide +kernel))
theorem fl_Pl_45 : FLinkO "ParishBoards$Plan" 45 (T_Cd 4) := Or.inr ⟨"ParishBoards", tb_at 182 (by decide +kernel) (by decide +kernel)⟩
theorem fl_Rd_9 : FLinkO "ParishBoards$Road" 9 (T_Rd 0) := Or.inl (tb_at 209 (by decide +kernel) (by decide +kernel))
theorem fl_Rd_15 : FLinkO "ParishBoards$Road" 15 (T_Rd 1) := Or.inl (tb_at 211 (by decide +kernel) (by decide +kernel))
theorem fl_Rd_19 : FLinkO "ParishBoards$Road" 19 (T_Rd 2) := Or.inl (tb_at 213 (by decide +kernel) (by decide +kernel))
theorem fl_Rd_22 : FLinkO "ParishBoards$Road" 22 (T_Rd 3) := Or.inl (tb_at 215 (by decide +kernel) (by decide +kernel))
theorem fl_Rd_25 : FLinkO "ParishBoards$Road" 25 (T_Rd 4) := Or.inl (tb_at 218 (by decide +kernel) (by decide +kernel))
theorem fl_Sh_9 : FLinkO "ParishBoards$Sheet" 9 (T_Sh 0) := Or.inl (tb_at 419 (by decide +kernel) (by decide +kernel))
theorem fl_Sh_15 : FLinkO "ParishBoards$Sheet" 15 (T_Sh 1) := Or.inl (tb_at 423 (by decide +kernel) (by decide +kernel))
theorem fl_Sh_19 : FLinkO "ParishBoards$Sheet" 19 (T_Sh 2) := Or.inl (tb_at 426 (by decide +kernel) (by decide +kernel))
theorem fl_Sh_22 : FLinkO "ParishBoards$Sheet" 22 (T_Sh 3) := Or.inl (tb_at 428 (by decide +kernel) (by decide +kernel))
theorem fl_Sh_25 : FLinkO "ParishBoards$Sheet" 25 (T_Sh 4) := Or.inl (tb_at 430 (by decide +kernel) (by decide +kernel))
theorem fl_Sh_28 : FLinkO "ParishBoards$Sheet" 28 (T_Sh 5) := Or.inl (tb_at 432 (by decide +kernel) (by decide +kernel))
theorem fl_Sh_31 : FLinkO "ParishBoards$Sheet" 31 (T_Sh 6) := Or.inl (tb_at 434 (by decide +kernel) (by decide +kernel))
theorem fl_Tk_11 : FLinkO "ParishBoards$Tokens" 11 (T_Tk 0) := Or.inl (tb_at 324 (by decide +kernel) (by decide +kernel))
theorem fl_Tk_17 : FLinkO "ParishBoards$Tokens" 17 (T_Tk 1) := Or.inl (tb_at 326 (by decide +kernel) (by decide +kernel))
theorem fl_Tk_21 : FLinkO "ParishBoards$Tokens" 21 (T_Tk 2) := Or.inl (tb_at 327 (by decide +kernel) (by decide +kernel))
theorem fl_Tk_25 : FLinkO "ParishBoards$Tokens" 25 (T_Tk 3) := Or.inl (tb_at 328 (by decide +kernel) (by decide +kernel))
theorem fl_Tk_28 : FLinkO "ParishBoards$Tokens" 28 (T_Tk 4) := Or.inl (tb_at 329 (by decide +kernel) (by decide +kernel))
theorem fl_Tk_32 : FLinkO "ParishBoards$Tokens" 32 (T_Tk 5) := Or.inl (tb_at 332 (by decide +kernel) (by decide +kernel))
theorem fl_Tk_36 : FLinkO "ParishBoards$Tokens" 36 (T_Tk 6) := Or.inl (tb_at 333 (by decide +kernel) (by decide +kernel))
theorem fl_Tk_85 : FLinkO "ParishBoards$Tokens" 85 (T_Ki 1) := Or.inl (tb_at 2234 (by decide +kernel) (by decide +kernel))
theorem fl_Wd_11 : FLinkO "ParishBoards$World" 11 (T_Wd 0) := Or.inl (tb_at 479 (by decide +kernel) (by decide +kernel))
theorem fl_Wd_19 : FLinkO "ParishBoards$World" 19 (T_Wd 1) := Or.inl (tb_at 481 (by decide +kernel) (by decide +kernel))
theorem fl_Wd_25 : FLinkO "ParishBoards$World" 25 (T_Wd 2) := Or.inl (tb_at 483 (by decide +kernel) (by decide +kernel))
theorem fl_Wd_29 : FLinkO "ParishBoards$World" 29 (T_Wd 4) := Or.inl (tb_at 486 (by decide +kernel) (by decide +kernel))
theorem fl_Wd_33 : FLinkO "ParishBoards$World" 33 (T_Wd 5) := Or.inl (tb_at 487 (by decide +kernel) (by decide +kernel))
theorem fl_Wd_36 : FLinkO "ParishBoards$World" 36 (T_Wd 6) := Or.inl (tb_at 489 (by decide +kernel) (by decide +kernel))
theorem fl_Wd_39 : FLinkO "ParishBoards$World" 39 (T_Wd 7) := Or.inl (tb_at 491 (by decide +kernel) (by decide +kernel))
theorem fl_Wd_42 : FLinkO "ParishBoards$World" 42 (T_Wd 3) := Or.inl (tb_at 485 (by decide +kernel) (by decide +kernel))
theorem fl_Wd_52 : FLinkO "ParishBoards$World" 52 (T_Pl 5) := Or.inr ⟨"ParishBoards", tb_at 297 (by decide +kernel) (by decide +kernel)⟩
theorem fl_Wd_57 : FLinkO "ParishBoards$World" 57 (T_Pl 1) := Or.inr ⟨"ParishBoards", tb_at 284 (by decide +kernel) (by decide +kernel)⟩
theorem fl_Wd_65 : FLinkO "ParishBoards$World" 65 (T_Pl 3) := Or.inr ⟨"ParishBoards", tb_at 289 (by decide +kernel) (by decide +kernel)⟩
theorem fl_Wd_71 : FLinkO "ParishBoards$World" 71 (T_Pl 4) := Or.inr ⟨"ParishBoards", tb_at 294 (by decide +kernel) (by decide +kernel)⟩
theorem fl_Wd_74 : FLinkO "ParishBoards$World" 74 (T_Pl 6) := Or.inr ⟨"ParishBoards", tb_at 301 (by decide +kernel) (by decide +kernel)⟩
theorem fl_Wd_93 : FLinkO "ParishBoards$World" 93 (T_Bd 3) := Or.inr ⟨"ParishBoards", tb_at 467 (by decide +kernel) (by decide +kernel)⟩
theorem fl_Wd_100 : FLinkO "ParishBoards$World" 100 (T_Bd 0) := Or.inr ⟨"ParishBoards", tb_at 461 (by decide +kernel) (by decide +kernel)⟩
theorem fl_Wd_107 : FLinkO "ParishBoards$World" 107 (T_Sh 1) := Or.inr ⟨"ParishBoards", tb_at 425 (by decide +kernel) (by decide +kernel)⟩
theorem fl_Wd_110 : FLinkO "ParishBoards$World" 110 (T_Sh 2) := Or.inr ⟨"ParishBoards", tb_at 427 (by decide +kernel) (by decide +kernel)⟩
theorem fl_Wd_113 : FLinkO "ParishBoards$World" 113 (T_Sh 3) := Or.inr ⟨"ParishBoards", tb_at 429 (by decide +kernel) (by decide +kernel)⟩
theorem fl_Wd_116 : FLinkO "ParishBoards$World" 116 (T_Sh 4) := Or.inr ⟨"ParishBoards", tb_at 431 (by decide +kernel) (by decide +kernel)⟩
theorem fl_Wd_119 : FLinkO "ParishBoards$World" 119 (T_Sh 5) := Or.inr ⟨"ParishBoards", tb_at 433 (by decide +kernel) (by decide +kernel)⟩
theorem fl_Wd_120 : FLinkO "ParishBoards$World" 120 (T_Sh 6) := Or.inr ⟨"ParishBoards", tb_at 435 (by decide +kernel) (by decide +kernel)⟩
theorem fl_Wd_129 : FLinkO "ParishBoards$World" 129 (T_Rd 1) := Or.inr ⟨"ParishBoards", tb_at 212 (by decide +kernel) (by decide +kernel)⟩
theorem fl_Wd_132 : FLinkO "ParishBoards$World" 132 (T_Rd 2) := Or.inr ⟨"ParishBoards", tb_at 214 (by decide +kernel) (by decide +kernel)⟩
theorem fl_Wd_135 : FLinkO "ParishBoards$World" 135 (T_Rd 3) := Or.inr ⟨"ParishBoards", tb_at 216 (by decide +kernel) (by decide +kernel)⟩
theorem fl_Wd_142 : FLinkO "ParishBoards$World" 142 (T_Rd 4) := Or.inr ⟨"ParishBoards", tb_at 219 (by decide +kernel) (by decide +kernel)⟩
theorem fl_Wd_157 : FLinkO "ParishBoards$World" 157 (T_Rd 0) := Or.inr ⟨"ParishBoards", tb_at 210 (by decide +kernel) (by decide +kernel)⟩
theorem fl_Wd_209 : FLinkO "ParishBoards$World" 209 (T_Sh 0) := Or.inr ⟨"ParishBoards", tb_at 422 (by decide +kernel) (by decide +kernel)⟩
theorem fl_Wd_222 : FLinkO "ParishBoards$World" 222 (T_Pl 2) := Or.inr ⟨"ParishBoards", tb_at 287 (by decide +kernel) (by decide +kernel)⟩
theorem fl_Wd_241 : FLinkO "ParishBoards$World" 241 (T_Pl 0) := Or.inr ⟨"ParishBoards", tb_at 282 (by decide +kernel) (by decide +kernel)⟩
theorem fl_Wd_245 : FLinkO "ParishBoards$World" 245 (T_Od 7) := Or.inr ⟨"ParishBoards", tb_at 257 (by decide +kernel) (by decide +kernel)⟩
theorem fl_Wd_248 : FLinkO "ParishBoards$World" 248 (T_Od 8) := Or.inr ⟨"ParishBoards", tb_at 260 (by decide +kernel) (by decide +kernel)⟩
theorem fl_Wd_257 : FLinkO "ParishBoards$World" 257 (T_Od 0) := Or.inr ⟨"ParishBoards", tb_at 240 (by decide +kernel) (by decide +kernel)⟩
theorem fl_Wd_263 : FLinkO "ParishBoards$World" 263 (T_Od 4) := Or.inr ⟨"ParishBoards", tb_at 248 (by decide +kernel) (by decide +kernel)⟩
theorem fl_Wd_272 : FLinkO "ParishBoards$World" 272 (T_Od 2) := Or.inr ⟨"ParishBoards", tb_at 244 (by decide +kernel) (by decide +kernel)⟩
theorem fl_Wd_273 : FLinkO "ParishBoards$World" 273 (T_Od 3) := Or.inr ⟨"ParishBoards", tb_at 246 (by decide +kernel) (by decide +kernel)⟩
theorem fl_Wd_277 : FLinkO "ParishBoards$World" 277 (T_Od 5) := Or.inr ⟨"ParishBoards", tb_at 251 (by decide +kernel) (by decide +kernel)⟩
theorem fl_Wd_284 : FLinkO "ParishBoards$World" 284 (T_Od 6) := Or.inr ⟨"ParishBoards", tb_at 254 (by decide +kernel) (by decide +kernel)⟩
theorem fl_Wd_311 : FLinkO "ParishBoards$World" 311 (T_Bd 2) := Or.inr ⟨"ParishBoards", tb_at 465 (by decide +kernel) (by decide +kernel)⟩
theorem fl_MM_9 : FLinkO "ParishBoardsModel" 9 (T_MM 1) := Or.inl (tb_at 1648 (by decide +kernel) (by decide +kernel))
theorem fl_MM_13 : FLinkO "ParishBoardsModel" 13 (T_MM 3) := Or.inl (tb_at 1650 (by decide +kernel) (by decide +kernel))
theorem fl_MM_17 : FLinkO "ParishBoardsModel" 17 (T_MM 4) := Or.inl (tb_at 1651 (by decide +kernel) (by decide +kernel))
theorem fl_MM_20 : FLinkO "ParishBoardsModel" 20 (T_MM 5) := Or.inl (tb_at 1652 (by decide +kernel) (by decide +kernel))
theorem fl_MM_23 : FLinkO "ParishBoardsModel" 23 (T_MM 6) := Or.inl (tb_at 1653 (by decide +kernel) (by decide +kernel))
theorem fl_MM_26 : FLinkO "ParishBoardsModel" 26 (T_MM 7) := Or.inl (tb_at 1654 (by decide +kernel) (by decide +kernel))
theorem fl_MM_29 : FLinkO "ParishBoardsModel" 29 (T_MM 8) := Or.inl (tb_at 1655 (by decide +kernel) (by decide +kernel))
theorem fl_MM_35 : FLinkO "ParishBoardsModel" 35 (T_MM 11) := Or.inl (tb_at 1658 (by decide +kernel) (by decide +kernel))
theorem fl_MM_39 : FLinkO "ParishBoardsModel" 39 (T_MM 12) := Or.inl (tb_at 1660 (by decide +kernel) (by decide +kernel))
theorem fl_MM_47 : FLinkO "ParishBoardsModel" 47 (T_MM 13) := Or.inl (tb_at 1661 (by decide +kernel) (by decide +kernel))
theorem fl_MM_51 : FLinkO "ParishBoardsModel" 51 (T_MM 14) := Or.inl (tb_at 1662 (by decide +kernel) (by decide +kernel))
theorem fl_MM_57 : FLinkO "ParishBoardsModel" 57 (T_MM 0) := Or.inl (tb_at 1647 (by decide +kernel) (by decide +kernel))
theorem fl_MM_60 : FLinkO "ParishBoardsModel" 60 (T_MP 0) := Or.inr ⟨"ParishBoardsModel", tb_at 1463 (by decide +kernel) (by decide +kernel)⟩
theorem fl_MM_71 : FLinkO "ParishBoardsModel" 71 (T_MP 1) := Or.inr ⟨"ParishBoardsModel", tb_at 1465 (by decide +kernel) (by decide +kernel)⟩
theorem fl_MM_74 : FLinkO "ParishBoardsModel" 74 (T_MP 2) := Or.inr ⟨"ParishBoardsModel", tb_at 1467 (by decide +kernel) (by decide +kernel)⟩
theorem fl_MM_77 : FLinkO "ParishBoardsModel" 77 (T_MS 1) := Or.inr ⟨"ParishBoardsModel", tb_at 1556 (by decide +kernel) (by decide +kernel)⟩
theorem fl_MM_89 : FLinkO "ParishBoardsModel" 89 (T_MM 2) := Or.inl (tb_at 1649 (by decide +kernel) (by decide +kernel))
theorem fl_MM_127 : FLinkO "ParishBoardsModel" 127 (T_MM 9) := Or.inl (tb_at 1656 (by decide +kernel) (by decide +kernel))
theorem fl_MM_136 : FLinkO "ParishBoardsModel" 136 (T_MP 15) := Or.inr ⟨"ParishBoardsModel", tb_at 1502 (by decide +kernel) (by decide +kernel)⟩
theorem fl_MM_139 : FLinkO "ParishBoardsModel" 139 (T_MP 16) := Or.inr ⟨"ParishBoardsModel", tb_at 1504 (by decide +kernel) (by decide +kernel)⟩
theorem fl_MM_158 : FLinkO "ParishBoardsModel" 158 (T_MP 7) := Or.inr ⟨"ParishBoardsModel", tb_at 1479 (by decide +kernel) (by decide +kernel)⟩
theorem fl_MM_161 : FLinkO "ParishBoardsModel" 161 (T_MP 12) := Or.inr ⟨"ParishBoardsModel", tb_at 1494 (by decide +kernel) (by decide +kernel)⟩
theorem fl_MM_170 : FLinkO "ParishBoardsModel" 170 (T_MP 13) := Or.inr ⟨"ParishBoardsModel", tb_at 1497 (by decide +kernel) (by decide +kernel)⟩
theorem fl_MM_173 : FLinkO "ParishBoardsModel" 173 (T_MP 14) := Or.inr ⟨"ParishBoardsModel", tb_at 1499 (by decide +kernel) (by decide +kernel)⟩
theorem fl_MM_189 : FLinkO "ParishBoardsModel" 189 (T_MM 10) := Or.inl (tb_at 1657 (by decide +kernel) (by decide +kernel))
theorem fl_MM_192 : FLinkO "ParishBoardsModel" 192 (T_MP 17) := Or.inr ⟨"ParishBoardsModel", tb_at 1506 (by decide +kernel) (by decide +kernel)⟩
theorem fl_MM_195 : FLinkO "ParishBoardsModel" 195 (T_MP 18) := Or.inr ⟨"ParishBoardsModel", tb_at 1507 (by decide +kernel) (by decide +kernel)⟩
theorem fl_MM_232 : FLinkO "ParishBoardsModel" 232 (T_MP 6) := Or.inr ⟨"ParishBoardsModel", tb_at 1478 (by decide +kernel) (by decide +kernel)⟩
theorem fl_MM_235 : FLinkO "ParishBoardsModel" 235 (T_MP 8) := Or.inr ⟨"ParishBoardsModel", tb_at 1482 (by decide +kernel) (by decide +kernel)⟩
theorem fl_MM_241 : FLinkO "ParishBoardsModel" 241 (T_MP 4) := Or.inr ⟨"ParishBoardsModel", tb_at 1473 (by decide +kernel) (by decide +kernel)⟩
theorem fl_MM_248 : FLinkO "ParishBoardsModel" 248 (T_MP 3) := Or.inr ⟨"ParishBoardsModel", tb_at 1470 (by decide +kernel) (by decide +kernel)⟩
theorem fl_MM_251 : FLinkO "ParishBoardsModel" 251 (T_MP 5) := Or.inr ⟨"ParishBoardsModel", tb_at 1476 (by decide +kernel) (by decide +kernel)⟩
theorem fl_MM_274 : FLinkO "ParishBoardsModel" 274 (T_MP 9) := Or.inr ⟨"ParishBoardsModel", tb_at 1485 (by decide +kernel) (by decide +kernel)⟩
theorem fl_MM_277 : FLinkO "ParishBoardsModel" 277 (T_MP 10) := Or.inr ⟨"ParishBoardsModel", tb_at 1488 (by decide +kernel) (by decide +kernel)⟩
theorem fl_MM_280 : FLinkO "ParishBoardsModel" 280 (T_MP 11) := Or.inr ⟨"ParishBoardsModel", tb_at 1491 (by decide +kernel) (by decide +kernel)⟩
theorem fl_MM_301 : FLinkO "ParishBoardsModel" 301 (T_MS 0) := Or.inr ⟨"ParishBoardsModel", tb_at 1554 (by decide +kernel) (by decide +kernel)⟩
theorem fl_MM_323 : FLinkO "ParishBoardsModel" 323 (T_MS 13) := Or.inr ⟨"ParishBoardsModel", tb_at 1576 (by decide +kernel) (by decide +kernel)⟩
theorem fl_MM_326 : FLinkO "ParishBoardsModel" 326 (T_MS 6) := Or.inr ⟨"ParishBoardsModel", tb_at 1564 (by decide +kernel) (by decide +kernel)⟩
theorem fl_MM_329 : FLinkO "ParishBoardsModel" 329 (T_MS 5) := Or.inr ⟨"ParishBoardsModel", tb_at 1562 (by decide +kernel) (by decide +kernel)⟩
theorem fl_MM_338 : FLinkO "ParishBoardsModel" 338 (T_MS 7) := Or.inr ⟨"ParishBoardsModel", tb_at 1566 (by decide +kernel) (by decide +kernel)⟩
theorem fl_MM_341 : FLinkO "ParishBoardsModel" 341 (T_MS 8) := Or.inr ⟨"ParishBoardsModel", tb_at 1568 (by decide +kernel) (by decide +kernel)⟩
theorem fl_MM_344 : FLinkO "ParishBoardsModel" 344 (T_MS 9) := Or.inr ⟨"ParishBoardsModel", tb_at 1570 (by decide +kernel) (by decide +kernel)⟩
theorem fl_MM_347 : FLinkO "ParishBoardsModel" 347 (T_MS 10) := Or.inr ⟨"ParishBoardsModel", tb_at 1572 (by decide +kernel) (by decide +kernel)⟩
theorem fl_MM_375 : FLinkO "ParishBoardsModel" 375 (T_MS 15) := Or.inr ⟨"ParishBoardsModel", tb_at 1579 (by decide +kernel) (by decide +kernel)⟩
theorem fl_MM_379 : FLinkO "ParishBoardsModel" 379 (T_MS 16) := Or.inr ⟨"ParishBoardsModel", tb_at 1581 (by decide +kernel) (by decide +kernel)⟩
theorem fl_MM_400 : FLinkO "ParishBoardsModel" 400 (T_MS 2) := Or.inr ⟨"ParishBoardsModel", tb_at 1558 (by decide +kernel) (by decide +kernel)⟩
theorem fl_MP_9 : FLinkO "ParishBoardsModel$Plan" 9 (T_MP 3) := Or.inl (tb_at 1468 (by decide +kernel) (by decide +kernel))
theorem fl_MP_15 : FLinkO "ParishBoardsModel$Plan" 15 (T_MP 4) := Or.inl (tb_at 1471 (by decide +kernel) (by decide +kernel))
theorem fl_MP_18 : FLinkO "ParishBoardsModel$Plan" 18 (T_MP 5) := Or.inl (tb_at 1474 (by decide +kernel) (by decide +kernel))
theorem fl_MP_21 : FLinkO "ParishBoardsModel$Plan" 21 (T_MP 8) := Or.inl (tb_at 1480 (by decide +kernel) (by decide +kernel))
theorem fl_MP_24 : FLinkO "ParishBoardsModel$Plan" 24 (T_MP 9) := Or.inl (tb_at 1483 (by decide +kernel) (by decide +kernel))
theorem fl_MP_27 : FLinkO "ParishBoardsModel$Plan" 27 (T_MP 10) := Or.inl (tb_at 1486 (by decide +kernel) (by decide +kernel))
theorem fl_MP_30 : FLinkO "ParishBoardsModel$Plan" 30 (T_MP 11) := Or.inl (tb_at 1489 (by decide +kernel) (by decide +kernel))
theorem fl_MP_33 : FLinkO "ParishBoardsModel$Plan" 33 (T_MP 12) := Or.inl (tb_at 1492 (by decide +kernel) (by decide +kernel))
theorem fl_MP_36 : FLinkO "ParishBoardsModel$Plan" 36 (T_MP 13) := Or.inl (tb_at 1495 (by decide +kernel) (by decide +kernel))
theorem fl_MP_39 : FLinkO "ParishBoardsModel$Plan" 39 (T_MP 14) := Or.inl (tb_at 1498 (by decide +kernel) (by decide +kernel))
theorem fl_MP_42 : FLinkO "ParishBoardsModel$Plan" 42 (T_MP 15) := Or.inl (tb_at 1501 (by decide +kernel) (by decide +kernel))
theorem fl_MP_45 : FLinkO "ParishBoardsModel$Plan" 45 (T_MP 17) := Or.inl (tb_at 1505 (by decide +kernel) (by decide +kernel))
theorem fl_MS_3 : FLinkO "ParishBoardsModel$State" 3 (T_MS 23) := Or.inl (tb_at 1588 (by decide +kernel) (by decide +kernel))
theorem fl_MS_15 : FLinkO "ParishBoardsModel$State" 15 (T_MS 5) := Or.inl (tb_at 1561 (by decide +kernel) (by decide +kernel))
theorem fl_MS_19 : FLinkO "ParishBoardsModel$State" 19 (T_MS 6) := Or.inl (tb_at 1563 (by decide +kernel) (by decide +kernel))
theorem fl_MS_22 : FLinkO "ParishBoardsModel$State" 22 (T_MS 7) := Or.inl (tb_at 1565 (by decide +kernel) (by decide +kernel))
theorem fl_MS_25 : FLinkO "ParishBoardsModel$State" 25 (T_MS 8) := Or.inl (tb_at 1567 (by decide +kernel) (by decide +kernel))
theorem fl_MS_28 : FLinkO "ParishBoardsModel$State" 28 (T_MS 9) := Or.inl (tb_at 1569 (by decide +kernel) (by decide +kernel))
theorem fl_MS_31 : FLinkO "ParishBoardsModel$State" 31 (T_MS 10) := Or.inl (tb_at 1571 (by decide +kernel) (by decide +kernel))
theorem fl_MS_34 : FLinkO "ParishBoardsModel$State" 34 (T_MS 11) := Or.inl (tb_at 1573 (by decide +kernel) (by decide +kernel))
theorem fl_MS_37 : FLinkO "ParishBoardsModel$State" 37 (T_MS 12) := Or.inl (tb_at 1574 (by decide +kernel) (by decide +kernel))
theorem fl_MS_40 : FLinkO "ParishBoardsModel$State" 40 (T_MS 13) := Or.inl (tb_at 1575 (by decide +kernel) (by decide +kernel))
theorem fl_MS_43 : FLinkO "ParishBoardsModel$State" 43 (T_MS 14) := Or.inl (tb_at 1577 (by decide +kernel) (by decide +kernel))
theorem fl_MS_47 : FLinkO "ParishBoardsModel$State" 47 (T_MS 15) := Or.inl (tb_at 1578 (by decide +kernel) (by decide +kernel))
theorem fl_MS_50 : FLinkO "ParishBoardsModel$State" 50 (T_MS 16) := Or.inl (tb_at 1580 (by decide +kernel) (by decide +kernel))
theorem fl_MS_53 : FLinkO "ParishBoardsModel$State" 53 (T_MS 17) := Or.inl (tb_at 1582 (by decide +kernel) (by decide +kernel))
theorem fl_MS_56 : FLinkO "ParishBoardsModel$State" 56 (T_MS 19) := Or.inl (tb_at 1584 (by decide +kernel) (by decide +kernel))
theorem fl_MS_59 : FLinkO "ParishBoardsModel$State" 59 (T_MS 20) := Or.inl (tb_at 1585 (by decide +kernel) (by decide +kernel))
theorem fl_MS_62 : FLinkO "ParishBoardsModel$State" 62 (T_MS 21) := Or.inl (tb_at 1586 (by decide +kernel) (by decide +kernel))
theorem fl_MS_65 : FLinkO "ParishBoardsModel$State" 65 (T_MS 22) := Or.inl (tb_at 1587 (by decide +kernel) (by decide +kernel))
theorem fl_MS_74 : FLinkO "ParishBoardsModel$State" 74 (T_MS 0) := Or.inl (tb_at 1553 (by decide +kernel) (by decide +kernel))
theorem fl_MS_78 : FLinkO "ParishBoardsModel$State" 78 (T_MS 1) := Or.inl (tb_at 1555 (by decide +kernel) (by decide +kernel))
theorem fl_MS_81 : FLinkO "ParishBoardsModel$State" 81 (T_MS 2) := Or.inl (tb_at 1557 (by decide +kernel) (by decide +kernel))
theorem fl_MS_84 : FLinkO "ParishBoardsModel$State" 84 (T_MS 3) := Or.inl (tb_at 1559 (by decide +kernel) (by decide +kernel))
theorem fl_MS_87 : FLinkO "ParishBoardsModel$State" 87 (T_MS 4) := Or.inl (tb_at 1560 (by decide +kernel) (by decide +kernel))
theorem fl_MS_90 : FLinkO "ParishBoardsModel$State" 90 (T_MS 18) := Or.inl (tb_at 1583 (by decide +kernel) (by decide +kernel))
theorem fl_MS_100 : FLinkO "ParishBoardsModel$State" 100 (T_MM 11) := Or.inr ⟨"ParishBoardsModel", tb_at 1659 (by decide +kernel) (by decide +kernel)⟩
theorem fl_MS_104 : FLinkO "ParishBoardsModel$State" 104 (T_MP 5) := Or.inr ⟨"ParishBoardsModel", tb_at 1475 (by decide +kernel) (by decide +kernel)⟩
theorem fl_MS_114 : FLinkO "ParishBoardsModel$State" 114 (T_MP 0) := Or.inr ⟨"ParishBoardsModel", tb_at 1464 (by decide +kernel) (by decide +kernel)⟩
theorem fl_MS_149 : FLinkO "ParishBoardsModel$State" 149 (T_MP 3) := Or.inr ⟨"ParishBoardsModel", tb_at 1469 (by decide +kernel) (by decide +kernel)⟩
theorem fl_MS_156 : FLinkO "ParishBoardsModel$State" 156 (T_MP 4) := Or.inr ⟨"ParishBoardsModel", tb_at 1472 (by decide +kernel) (by decide +kernel)⟩
theorem fl_MS_171 : FLinkO "ParishBoardsModel$State" 171 (T_MP 9) := Or.inr ⟨"ParishBoardsModel", tb_at 1484 (by decide +kernel) (by decide +kernel)⟩
theorem fl_MS_174 : FLinkO "ParishBoardsModel$State" 174 (T_MP 10) := Or.inr ⟨"ParishBoardsModel", tb_at 1487 (by decide +kernel) (by decide +kernel)⟩
theorem fl_MS_177 : FLinkO "ParishBoardsModel$State" 177 (T_MP 8) := Or.inr ⟨"ParishBoardsModel", tb_at 1481 (by decide +kernel) (by decide +kernel)⟩
theorem fl_MS_184 : FLinkO "ParishBoardsModel$State" 184 (T_MP 12) := Or.inr ⟨"ParishBoardsModel", tb_at 1493 (by decide +kernel) (by decide +kernel)⟩
theorem fl_MS_187 : FLinkO "ParishBoardsModel$State" 187 (T_MP 13) := Or.inr ⟨"ParishBoardsModel", tb_at 1496 (by decide +kernel) (by decide +kernel)⟩
theorem fl_MS_193 : FLinkO "ParishBoardsModel$State" 193 (T_MP 11) := Or.inr ⟨"ParishBoardsModel", tb_at 1490 (by decide +kernel) (by decide +kernel)⟩
theorem fl_MS_209 : FLinkO "ParishBoardsModel$State" 209 (T_MP 14) := Or.inr ⟨"ParishBoardsModel", tb_at 1500 (by decide +kernel) (by decide +kernel)⟩
theorem fl_MS_212 : FLinkO "ParishBoardsModel$State" 212 (T_MP 6) := Or.inr ⟨"ParishBoardsModel", tb_at 1477 (by decide +kernel) (by decide +kernel)⟩
theorem fl_MS_238 : FLinkO "ParishBoardsModel$State" 238 (T_MP 1) := Or.inr ⟨"ParishBoardsModel", tb_at 1466 (by decide +kernel) (by decide +kernel)⟩
theorem fl_MS_250 : FLinkO "ParishBoardsModel$State" 250 (T_MP 15) := Or.inr ⟨"ParishBoardsModel", tb_at 1503 (by decide +kernel) (by decide +kernel)⟩
theorem fl_En_7 : FLinkO "java/lang/Enum" 7 (T_Ki 0) := Or.inl (tb_at 2237 (by decide +kernel) (by decide +kernel))
theorem fl_Str_9 : FLinkO "java/lang/String" 9 (T_Str 0) := Or.inl (tb_at 2235 (by decide +kernel) (by decide +kernel))
theorem fl_Str_15 : FLinkO "java/lang/String" 15 (T_Str 1) := Or.inl (tb_at 2236 (by decide +kernel) (by decide +kernel))
theorem ol_PB_1 : Cond.methodLink "ParishBoards" 1 Lib.objectInit ∈ tb := tb_at 160 (by decide +kernel) (by decide +kernel)
theorem il_PB_22 : ILinkO "ParishBoards" 22 ⟨"ParishBoards$Plan", "<init>", "()V"⟩ := ⟨Or.inl (tb_at 165 (by decide +kernel) (by decide +kernel)), tb_at 166 (by decide +kernel) (by decide +kernel), rfl⟩
theorem il_PB_32 : ILinkO "ParishBoards" 32 ⟨"ParishBoards$Tokens", "<init>", "()V"⟩ := ⟨Or.inr ⟨"ParishBoards", tb_at 319 (by decide +kernel) (by decide +kernel)⟩, tb_at 320 (by decide +kernel) (by decide +kernel), rfl⟩
theorem il_PB_39 : ILinkO "ParishBoards" 39 ⟨"ParishBoards$Grammar", "<init>", "(LParishBoards$Tokens;LParishBoards$Plan;)V"⟩ := ⟨Or.inl (tb_at 352 (by decide +kernel) (by decide +kernel)), tb_at 353 (by decide +kernel) (by decide +kernel), rfl⟩
theorem il_PB_48 : ILinkO "ParishBoards" 48 ⟨"ParishBoards$Names", "<init>", "(LParishBoards$Tokens;LParishBoards$Plan;)V"⟩ := ⟨Or.inl (tb_at 373 (by decide +kernel) (by decide +kernel)), tb_at 374 (by decide +kernel) (by decide +kernel), rfl⟩
theorem il_PB_55 : ILinkO "ParishBoards" 55 ⟨"ParishBoards$World", "<init>", "(LParishBoards$Plan;)V"⟩ := ⟨Or.inl (tb_at 405 (by decide +kernel) (by decide +kernel)), tb_at 406 (by decide +kernel) (by decide +kernel), rfl⟩
theorem il_PB_69 : ILinkO "ParishBoards" 69 ⟨"java/lang/IllegalStateException", "<init>", "(Ljava/lang/String;)V"⟩ := ⟨Or.inl (tb_at 1068 (by decide +kernel) (by decide +kernel)), tb_at 1069 (by decide +kernel) (by decide +kernel), rfl⟩
theorem vl_PB_72 : VLinkO "ParishBoards" 72 "ParishBoards" ⟨"ParishBoards", "append", "(I)V"⟩ := ⟨Or.inl (tb_at 1093 (by decide +kernel) (by decide +kernel)), tb_at 1095 (by decide +kernel) (by decide +kernel), tb_at 44 (by decide +kernel) (by decide +kernel)⟩
theorem il_PB_80 : ILinkO "ParishBoards" 80 ⟨"java/lang/IllegalArgumentException", "<init>", "(Ljava/lang/String;)V"⟩ := ⟨Or.inl (tb_at 1115 (by decide +kernel) (by decide +kernel)), tb_at 1116 (by decide +kernel) (by decide +kernel), rfl⟩
theorem vl_PB_81 : VLinkO "ParishBoards" 81 "ParishBoards$Tokens" ⟨"ParishBoards$Tokens", "scan", "([BI)V"⟩ := ⟨Or.inl (tb_at 544 (by decide +kernel) (by decide +kernel)), tb_at 545 (by decide +kernel) (by decide +kernel), tb_at 546 (by decide +kernel) (by decide +kernel)⟩
theorem vl_PB_85 : VLinkO "ParishBoards" 85 "ParishBoards$Plan" ⟨"ParishBoards$Plan", "clear", "()V"⟩ := ⟨Or.inl (tb_at 649 (by decide +kernel) (by decide +kernel)), tb_at 650 (by decide +kernel) (by decide +kernel), tb_at 651 (by decide +kernel) (by decide +kernel)⟩
theorem vl_PB_88 : VLinkO "ParishBoards" 88 "ParishBoards$Grammar" ⟨"ParishBoards$Grammar", "firstMisfit", "(LParishBoards$Plan;)I"⟩ := ⟨Or.inl (tb_at 653 (by decide +kernel) (by decide +kernel)), tb_at 654 (by decide +kernel) (by decide +kernel), tb_at 655 (by decide +kernel) (by decide +kernel)⟩
theorem vl_PB_92 : VLinkO "ParishBoards" 92 "ParishBoards$Tokens" ⟨"ParishBoards$Tokens", "startAt", "(I)I"⟩ := ⟨Or.inl (tb_at 799 (by decide +kernel) (by decide +kernel)), tb_at 800 (by decide +kernel) (by decide +kernel), tb_at 801 (by decide +kernel) (by decide +kernel)⟩
theorem vl_PB_96 : VLinkO "ParishBoards" 96 "ParishBoards$Names" ⟨"ParishBoards$Names", "firstError", "(LParishBoards$Plan;)I"⟩ := ⟨Or.inl (tb_at 803 (by decide +kernel) (by decide +kernel)), tb_at 804 (by decide +kernel) (by decide +kernel), tb_at 805 (by decide +kernel) (by decide +kernel)⟩
theorem vl_PB_102 : VLinkO "ParishBoards" 102 "ParishBoards" ⟨"ParishBoards", "beginAnew", "()V"⟩ := ⟨Or.inl (tb_at 862 (by decide +kernel) (by decide +kernel)), tb_at 864 (by decide +kernel) (by decide +kernel), tb_at 32 (by decide +kernel) (by decide +kernel)⟩
theorem il_PB_109 : ILinkO "ParishBoards" 109 ⟨"java/lang/IndexOutOfBoundsException", "<init>", "(Ljava/lang/String;)V"⟩ := ⟨Or.inl (tb_at 1139 (by decide +kernel) (by decide +kernel)), tb_at 1140 (by decide +kernel) (by decide +kernel), rfl⟩
theorem vl_PB_110 : VLinkO "ParishBoards" 110 "ParishBoards" ⟨"ParishBoards", "counted", "(I)I"⟩ := ⟨Or.inl (tb_at 939 (by decide +kernel) (by decide +kernel)), tb_at 941 (by decide +kernel) (by decide +kernel), tb_at 33 (by decide +kernel) (by decide +kernel)⟩
theorem vl_PB_113 : VLinkO "ParishBoards" 113 "ParishBoards" ⟨"ParishBoards", "isParish", "(I)Z"⟩ := ⟨Or.inl (tb_at 1152 (by decide +kernel) (by decide +kernel)), tb_at 1154 (by decide +kernel) (by decide +kernel), tb_at 45 (by decide +kernel) (by decide +kernel)⟩
theorem vl_PB_119 : VLinkO "ParishBoards" 119 "ParishBoards$World" ⟨"ParishBoards$World", "parishFact", "(II)I"⟩ := ⟨Or.inl (tb_at 987 (by decide +kernel) (by decide +kernel)), tb_at 988 (by decide +kernel) (by decide +kernel), tb_at 989 (by decide +kernel) (by decide +kernel)⟩
theorem vl_PB_135 : VLinkO "ParishBoards" 135 "ParishBoards" ⟨"ParishBoards", "isSheet", "(I)Z"⟩ := ⟨Or.inl (tb_at 1172 (by decide +kernel) (by decide +kernel)), tb_at 1174 (by decide +kernel) (by decide +kernel), tb_at 46 (by decide +kernel) (by decide +kernel)⟩
theorem vl_PB_140 : VLinkO "ParishBoards" 140 "ParishBoards$World" ⟨"ParishBoards$World", "sheetFact", "(II)I"⟩ := ⟨Or.inl (tb_at 1004 (by decide +kernel) (by decide +kernel)), tb_at 1005 (by decide +kernel) (by decide +kernel), tb_at 1006 (by decide +kernel) (by decide +kernel)⟩
theorem vl_PB_154 : VLinkO "ParishBoards" 154 "ParishBoards" ⟨"ParishBoards", "isBoardOf", "(II)Z"⟩ := ⟨Or.inl (tb_at 1192 (by decide +kernel) (by decide +kernel)), tb_at 1194 (by decide +kernel) (by decide +kernel), tb_at 47 (by decide +kernel) (by decide +kernel)⟩
theorem vl_PB_160 : VLinkO "ParishBoards" 160 "ParishBoards$Board" ⟨"ParishBoards$Board", "shownAt", "(II)I"⟩ := ⟨Or.inl (tb_at 996 (by decide +kernel) (by decide +kernel)), tb_at 997 (by decide +kernel) (by decide +kernel), tb_at 998 (by decide +kernel) (by decide +kernel)⟩
theorem vl_PB_167 : VLinkO "ParishBoards" 167 "ParishBoards$Sheet" ⟨"ParishBoards$Sheet", "isAheadOf", "(LParishBoards$Sheet;)Z"⟩ := ⟨Or.inl (tb_at 1206 (by decide +kernel) (by decide +kernel)), tb_at 1207 (by decide +kernel) (by decide +kernel), tb_at 1208 (by decide +kernel) (by decide +kernel)⟩
theorem vl_PB_171 : VLinkO "ParishBoards" 171 "ParishBoards" ⟨"ParishBoards", "isRoad", "(I)Z"⟩ := ⟨Or.inl (tb_at 1217 (by decide +kernel) (by decide +kernel)), tb_at 1219 (by decide +kernel) (by decide +kernel), tb_at 48 (by decide +kernel) (by decide +kernel)⟩
theorem vl_PB_176 : VLinkO "ParishBoards" 176 "ParishBoards$World" ⟨"ParishBoards$World", "roadFact", "(II)I"⟩ := ⟨Or.inl (tb_at 1014 (by decide +kernel) (by decide +kernel)), tb_at 1015 (by decide +kernel) (by decide +kernel), tb_at 1016 (by decide +kernel) (by decide +kernel)⟩
theorem vl_PB_181 : VLinkO "ParishBoards" 181 "ParishBoards$World" ⟨"ParishBoards$World", "isFull", "()Z"⟩ := ⟨Or.inl (tb_at 1230 (by decide +kernel) (by decide +kernel)), tb_at 1231 (by decide +kernel) (by decide +kernel), tb_at 1232 (by decide +kernel) (by decide +kernel)⟩
theorem vl_PB_187 : VLinkO "ParishBoards" 187 "ParishBoards$World" ⟨"ParishBoards$World", "makeWritten", "(III)I"⟩ := ⟨Or.inl (tb_at 1235 (by decide +kernel) (by decide +kernel)), tb_at 1236 (by decide +kernel) (by decide +kernel), tb_at 1237 (by decide +kernel) (by decide +kernel)⟩
theorem sl_PB_191 : SLinkO "ParishBoards" 191 ⟨"ParishBoards", "isMark", "(I)Z"⟩ := ⟨Or.inl (tb_at 1260 (by decide +kernel) (by decide +kernel)), tb_at 1261 (by decide +kernel) (by decide +kernel)⟩
theorem vl_PB_196 : VLinkO "ParishBoards" 196 "ParishBoards$World" ⟨"ParishBoards$World", "canNote", "(II)Z"⟩ := ⟨Or.inl (tb_at 1264 (by decide +kernel) (by decide +kernel)), tb_at 1265 (by decide +kernel) (by decide +kernel), tb_at 1266 (by decide +kernel) (by decide +kernel)⟩
theorem vl_PB_201 : VLinkO "ParishBoards" 201 "ParishBoards$World" ⟨"ParishBoards$World", "makeNoted", "(III)I"⟩ := ⟨Or.inl (tb_at 1270 (by decide +kernel) (by decide +kernel)), tb_at 1271 (by decide +kernel) (by decide +kernel), tb_at 1272 (by decide +kernel) (by decide +kernel)⟩
theorem vl_PB_206 : VLinkO "ParishBoards" 206 "ParishBoards$World" ⟨"ParishBoards$World", "canMerge", "(II)Z"⟩ := ⟨Or.inl (tb_at 1297 (by decide +kernel) (by decide +kernel)), tb_at 1298 (by decide +kernel) (by decide +kernel), tb_at 1299 (by decide +kernel) (by decide +kernel)⟩
theorem vl_PB_211 : VLinkO "ParishBoards" 211 "ParishBoards$World" ⟨"ParishBoards$World", "makeMerged", "(III)I"⟩ := ⟨Or.inl (tb_at 1302 (by decide +kernel) (by decide +kernel)), tb_at 1303 (by decide +kernel) (by decide +kernel), tb_at 1304 (by decide +kernel) (by decide +kernel)⟩
theorem vl_PB_216 : VLinkO "ParishBoards" 216 "ParishBoards$World" ⟨"ParishBoards$World", "carry", "(I)I"⟩ := ⟨Or.inl (tb_at 1320 (by decide +kernel) (by decide +kernel)), tb_at 1321 (by decide +kernel) (by decide +kernel), tb_at 1322 (by decide +kernel) (by decide +kernel)⟩
theorem vl_PB_233 : VLinkO "ParishBoards" 233 "ParishBoards$World" ⟨"ParishBoards$World", "passDays", "(I)V"⟩ := ⟨Or.inl (tb_at 1339 (by decide +kernel) (by decide +kernel)), tb_at 1340 (by decide +kernel) (by decide +kernel), tb_at 1341 (by decide +kernel) (by decide +kernel)⟩
theorem vl_PB_238 : VLinkO "ParishBoards" 238 "ParishBoards$World" ⟨"ParishBoards$World", "copyFrom", "(LParishBoards$World;)V"⟩ := ⟨Or.inl (tb_at 1421 (by decide +kernel) (by decide +kernel)), tb_at 1422 (by decide +kernel) (by decide +kernel), tb_at 1423 (by decide +kernel) (by decide +kernel)⟩
theorem vl_PB_242 : VLinkO "ParishBoards" 242 "ParishBoards$World" ⟨"ParishBoards$World", "tally", "(I)I"⟩ := ⟨Or.inl (tb_at 943 (by decide +kernel) (by decide +kernel)), tb_at 944 (by decide +kernel) (by decide +kernel), tb_at 945 (by decide +kernel) (by decide +kernel)⟩
theorem vl_PB_247 : VLinkO "ParishBoards" 247 "ParishBoards$World" ⟨"ParishBoards$World", "isKnownAt", "(II)Z"⟩ := ⟨Or.inl (tb_at 1443 (by decide +kernel) (by decide +kernel)), tb_at 915 (by decide +kernel) (by decide +kernel), tb_at 916 (by decide +kernel) (by decide +kernel)⟩
theorem vl_PB_253 : VLinkO "ParishBoards" 253 "ParishBoards$Board" ⟨"ParishBoards$Board", "showsAsMuchAs", "(LParishBoards$Board;)Z"⟩ := ⟨Or.inl (tb_at 902 (by decide +kernel) (by decide +kernel)), tb_at 903 (by decide +kernel) (by decide +kernel), tb_at 904 (by decide +kernel) (by decide +kernel)⟩
theorem vl_PB_260 : VLinkO "ParishBoards" 260 "ParishBoards$World" ⟨"ParishBoards$World", "knowers", "(I)I"⟩ := ⟨Or.inl (tb_at 910 (by decide +kernel) (by decide +kernel)), tb_at 911 (by decide +kernel) (by decide +kernel), tb_at 912 (by decide +kernel) (by decide +kernel)⟩
theorem vl_PB_266 : VLinkO "ParishBoards" 266 "ParishBoards$World" ⟨"ParishBoards$World", "knownOnBoards", "()I"⟩ := ⟨Or.inl (tb_at 926 (by decide +kernel) (by decide +kernel)), tb_at 927 (by decide +kernel) (by decide +kernel), tb_at 928 (by decide +kernel) (by decide +kernel)⟩
theorem sl_PB_272 : SLinkO "ParishBoards" 272 ⟨"ParishBoards", "mixed", "(JI)J"⟩ := ⟨Or.inl (tb_at 979 (by decide +kernel) (by decide +kernel)), tb_at 980 (by decide +kernel) (by decide +kernel)⟩
theorem vl_PB_276 : VLinkO "ParishBoards" 276 "ParishBoards" ⟨"ParishBoards", "mixedParish", "(JI)J"⟩ := ⟨Or.inl (tb_at 983 (by decide +kernel) (by decide +kernel)), tb_at 985 (by decide +kernel) (by decide +kernel), tb_at 39 (by decide +kernel) (by decide +kernel)⟩
theorem vl_PB_279 : VLinkO "ParishBoards" 279 "ParishBoards" ⟨"ParishBoards", "mixedSheet", "(JI)J"⟩ := ⟨Or.inl (tb_at 1000 (by decide +kernel) (by decide +kernel)), tb_at 1002 (by decide +kernel) (by decide +kernel), tb_at 41 (by decide +kernel) (by decide +kernel)⟩
theorem vl_PB_282 : VLinkO "ParishBoards" 282 "ParishBoards$Plan" ⟨"ParishBoards$Plan", "settle", "(LParishBoards$Tokens;)V"⟩ := ⟨Or.inl (tb_at 866 (by decide +kernel) (by decide +kernel)), tb_at 867 (by decide +kernel) (by decide +kernel), tb_at 868 (by decide +kernel) (by decide +kernel)⟩
theorem vl_PB_286 : VLinkO "ParishBoards" 286 "ParishBoards$World" ⟨"ParishBoards$World", "begin", "(LParishBoards$Plan;)V"⟩ := ⟨Or.inl (tb_at 882 (by decide +kernel) (by decide +kernel)), tb_at 883 (by decide +kernel) (by decide +kernel), tb_at 884 (by decide +kernel) (by decide +kernel)⟩
theorem vl_PB_294 : VLinkO "ParishBoards" 294 "ParishBoards$Board" ⟨"ParishBoards$Board", "shownCount", "(I)I"⟩ := ⟨Or.inl (tb_at 995 (by decide +kernel) (by decide +kernel)), tb_at 968 (by decide +kernel) (by decide +kernel), tb_at 969 (by decide +kernel) (by decide +kernel)⟩
theorem ol_Bd_3 : Cond.methodLink "ParishBoards$Board" 3 Lib.objectInit ∈ tb := tb_at 455 (by decide +kernel) (by decide +kernel)
theorem vl_Bd_26 : VLinkO "ParishBoards$Board" 26 "ParishBoards$Board" ⟨"ParishBoards$Board", "clear", "()V"⟩ := ⟨Or.inl (tb_at 456 (by decide +kernel) (by decide +kernel)), tb_at 457 (by decide +kernel) (by decide +kernel), tb_at 458 (by decide +kernel) (by decide +kernel)⟩
theorem ml_Bd_29 : Cond.methodLink "ParishBoards$Board" 29 arraycopyName ∈ tb := tb_at 1434 (by decide +kernel) (by decide +kernel)
theorem vl_Bd_43 : VLinkO "ParishBoards$Board" 43 "ParishBoards$Board" ⟨"ParishBoards$Board", "shownFrom", "(II)I"⟩ := ⟨Or.inl (tb_at 971 (by decide +kernel) (by decide +kernel)), tb_at 972 (by decide +kernel) (by decide +kernel), tb_at 973 (by decide +kernel) (by decide +kernel)⟩
theorem vl_Bd_47 : VLinkO "ParishBoards$Board" 47 "ParishBoards$Board" ⟨"ParishBoards$Board", "shownCount", "(I)I"⟩ := ⟨Or.inl (tb_at 967 (by decide +kernel) (by decide +kernel)), tb_at 968 (by decide +kernel) (by decide +kernel), tb_at 969 (by decide +kernel) (by decide +kernel)⟩
theorem ol_Cd_3 : Cond.methodLink "ParishBoards$Code" 3 Lib.objectInit ∈ tb := tb_at 174 (by decide +kernel) (by decide +kernel)
theorem vl_Cd_38 : VLinkO "ParishBoards$Code" 38 "ParishBoards$Tokens" ⟨"ParishBoards$Tokens", "worthAt", "(I)J"⟩ := ⟨Or.inl (tb_at 875 (by decide +kernel) (by decide +kernel)), tb_at 819 (by decide +kernel) (by decide +kernel), tb_at 820 (by decide +kernel) (by decide +kernel)⟩
theorem vl_Cd_44 : VLinkO "ParishBoards$Code" 44 "ParishBoards$Tokens" ⟨"ParishBoards$Tokens", "meaningAt", "(I)I"⟩ := ⟨Or.inl (tb_at 876 (by decide +kernel) (by decide +kernel)), tb_at 842 (by decide +kernel) (by decide +kernel), tb_at 843 (by decide +kernel) (by decide +kernel)⟩
-- no selects: ParishBoards$Code 53 ('ParishBoards$Kind', 'ordinal', '()I')
theorem vl_Cd_57 : VLinkO "ParishBoards$Code" 57 "ParishBoards$Code" ⟨"ParishBoards$Code", "push", "(I)V"⟩ := ⟨Or.inl (tb_at 1357 (by decide +kernel) (by decide +kernel)), tb_at 1359 (by decide +kernel) (by decide +kernel), tb_at 52 (by decide +kernel) (by decide +kernel)⟩
theorem vl_Cd_61 : VLinkO "ParishBoards$Code" 61 "ParishBoards$World" ⟨"ParishBoards$World", "answer", "(LParishBoards$Kind;II)I"⟩ := ⟨Or.inl (tb_at 1361 (by decide +kernel) (by decide +kernel)), tb_at 1277 (by decide +kernel) (by decide +kernel), tb_at 1278 (by decide +kernel) (by decide +kernel)⟩
theorem vl_Cd_67 : VLinkO "ParishBoards$Code" 67 "ParishBoards$Code" ⟨"ParishBoards$Code", "pop", "()I"⟩ := ⟨Or.inl (tb_at 1362 (by decide +kernel) (by decide +kernel)), tb_at 1364 (by decide +kernel) (by decide +kernel), tb_at 53 (by decide +kernel) (by decide +kernel)⟩
theorem sl_Cd_70 : SLinkO "ParishBoards$Code" 70 ⟨"ParishBoards$Code", "joined", "(LParishBoards$Kind;II)I"⟩ := ⟨Or.inl (tb_at 1366 (by decide +kernel) (by decide +kernel)), tb_at 1367 (by decide +kernel) (by decide +kernel)⟩
theorem sl_Cd_73 : SLinkO "ParishBoards$Code" 73 ⟨"java/lang/Math", "min", "(II)I"⟩ := ⟨Or.inl (tb_at 1369 (by decide +kernel) (by decide +kernel)), tb_at 1307 (by decide +kernel) (by decide +kernel)⟩
theorem sl_Cd_79 : SLinkO "ParishBoards$Code" 79 ⟨"java/lang/Math", "max", "(II)I"⟩ := ⟨Or.inl (tb_at 1370 (by decide +kernel) (by decide +kernel)), tb_at 1310 (by decide +kernel) (by decide +kernel)⟩
theorem sl_Cd_82 : SLinkO "ParishBoards$Code" 82 ⟨"ParishBoards$Code", "compares", "(LParishBoards$Kind;II)Z"⟩ := ⟨Or.inl (tb_at 1371 (by decide +kernel) (by decide +kernel)), tb_at 1372 (by decide +kernel) (by decide +kernel)⟩
theorem ol_Gr_3 : Cond.methodLink "ParishBoards$Grammar" 3 Lib.objectInit ∈ tb := tb_at 355 (by decide +kernel) (by decide +kernel)
theorem vl_Gr_32 : VLinkO "ParishBoards$Grammar" 32 "ParishBoards$Tokens" ⟨"ParishBoards$Tokens", "kindAt", "(I)LParishBoards$Kind;"⟩ := ⟨Or.inl (tb_at 657 (by decide +kernel) (by decide +kernel)), tb_at 658 (by decide +kernel) (by decide +kernel), tb_at 659 (by decide +kernel) (by decide +kernel)⟩
theorem vl_Gr_41 : VLinkO "ParishBoards$Grammar" 41 "ParishBoards$Grammar" ⟨"ParishBoards$Grammar", "line", "()V"⟩ := ⟨Or.inl (tb_at 662 (by decide +kernel) (by decide +kernel)), tb_at 664 (by decide +kernel) (by decide +kernel), tb_at 9 (by decide +kernel) (by decide +kernel)⟩
theorem vl_Gr_47 : VLinkO "ParishBoards$Grammar" 47 "ParishBoards$Grammar" ⟨"ParishBoards$Grammar", "take", "(LParishBoards$Kind;)V"⟩ := ⟨Or.inl (tb_at 674 (by decide +kernel) (by decide +kernel)), tb_at 676 (by decide +kernel) (by decide +kernel), tb_at 10 (by decide +kernel) (by decide +kernel)⟩
-- no selects: ParishBoards$Grammar 57 ('ParishBoards$Kind', 'ordinal', '()I')
theorem vl_Gr_64 : VLinkO "ParishBoards$Grammar" 64 "ParishBoards$Grammar" ⟨"ParishBoards$Grammar", "roadLine", "()V"⟩ := ⟨Or.inl (tb_at 679 (by decide +kernel) (by decide +kernel)), tb_at 681 (by decide +kernel) (by decide +kernel), tb_at 11 (by decide +kernel) (by decide +kernel)⟩
theorem vl_Gr_67 : VLinkO "ParishBoards$Grammar" 67 "ParishBoards$Plan" ⟨"ParishBoards$Plan", "nextOrder", "()LParishBoards$Order;"⟩ := ⟨Or.inl (tb_at 692 (by decide +kernel) (by decide +kernel)), tb_at 693 (by decide +kernel) (by decide +kernel), tb_at 694 (by decide +kernel) (by decide +kernel)⟩
theorem vl_Gr_73 : VLinkO "ParishBoards$Grammar" 73 "ParishBoards$Grammar" ⟨"ParishBoards$Grammar", "orderLine", "(LParishBoards$Order;)V"⟩ := ⟨Or.inl (tb_at 696 (by decide +kernel) (by decide +kernel)), tb_at 698 (by decide +kernel) (by decide +kernel), tb_at 12 (by decide +kernel) (by decide +kernel)⟩
theorem vl_Gr_121 : VLinkO "ParishBoards$Grammar" 121 "ParishBoards$Grammar" ⟨"ParishBoards$Grammar", "sum", "(I)V"⟩ := ⟨Or.inl (tb_at 705 (by decide +kernel) (by decide +kernel)), tb_at 707 (by decide +kernel) (by decide +kernel), tb_at 13 (by decide +kernel) (by decide +kernel)⟩
theorem vl_Gr_137 : VLinkO "ParishBoards$Grammar" 137 "ParishBoards$Grammar" ⟨"ParishBoards$Grammar", "wayOfMerging", "()I"⟩ := ⟨Or.inl (tb_at 759 (by decide +kernel) (by decide +kernel)), tb_at 761 (by decide +kernel) (by decide +kernel), tb_at 19 (by decide +kernel) (by decide +kernel)⟩
theorem vl_Gr_149 : VLinkO "ParishBoards$Grammar" 149 "ParishBoards$Grammar" ⟨"ParishBoards$Grammar", "test", "(I)V"⟩ := ⟨Or.inl (tb_at 771 (by decide +kernel) (by decide +kernel)), tb_at 773 (by decide +kernel) (by decide +kernel), tb_at 20 (by decide +kernel) (by decide +kernel)⟩
theorem vl_Gr_164 : VLinkO "ParishBoards$Grammar" 164 "ParishBoards$Grammar" ⟨"ParishBoards$Grammar", "both", "(I)V"⟩ := ⟨Or.inl (tb_at 775 (by decide +kernel) (by decide +kernel)), tb_at 777 (by decide +kernel) (by decide +kernel), tb_at 21 (by decide +kernel) (by decide +kernel)⟩
theorem vl_Gr_170 : VLinkO "ParishBoards$Grammar" 170 "ParishBoards$Code" ⟨"ParishBoards$Code", "add", "(LParishBoards$Kind;I)V"⟩ := ⟨Or.inl (tb_at 717 (by decide +kernel) (by decide +kernel)), tb_at 718 (by decide +kernel) (by decide +kernel), tb_at 719 (by decide +kernel) (by decide +kernel)⟩
theorem vl_Gr_174 : VLinkO "ParishBoards$Grammar" 174 "ParishBoards$Grammar" ⟨"ParishBoards$Grammar", "single", "(I)V"⟩ := ⟨Or.inl (tb_at 779 (by decide +kernel) (by decide +kernel)), tb_at 781 (by decide +kernel) (by decide +kernel), tb_at 22 (by decide +kernel) (by decide +kernel)⟩
theorem vl_Gr_183 : VLinkO "ParishBoards$Grammar" 183 "ParishBoards$Grammar" ⟨"ParishBoards$Grammar", "goesDeeper", "(LParishBoards$Kind;I)Z"⟩ := ⟨Or.inl (tb_at 729 (by decide +kernel) (by decide +kernel)), tb_at 731 (by decide +kernel) (by decide +kernel), tb_at 17 (by decide +kernel) (by decide +kernel)⟩
theorem vl_Gr_193 : VLinkO "ParishBoards$Grammar" 193 "ParishBoards$Grammar" ⟨"ParishBoards$Grammar", "board", "(LParishBoards$Kind;)V"⟩ := ⟨Or.inl (tb_at 721 (by decide +kernel) (by decide +kernel)), tb_at 723 (by decide +kernel) (by decide +kernel), tb_at 16 (by decide +kernel) (by decide +kernel)⟩
theorem vl_Gr_196 : VLinkO "ParishBoards$Grammar" 196 "ParishBoards$Grammar" ⟨"ParishBoards$Grammar", "takeComparison", "()V"⟩ := ⟨Or.inl (tb_at 789 (by decide +kernel) (by decide +kernel)), tb_at 791 (by decide +kernel) (by decide +kernel), tb_at 23 (by decide +kernel) (by decide +kernel)⟩
theorem vl_Gr_199 : VLinkO "ParishBoards$Grammar" 199 "ParishBoards$Grammar" ⟨"ParishBoards$Grammar", "product", "(I)V"⟩ := ⟨Or.inl (tb_at 709 (by decide +kernel) (by decide +kernel)), tb_at 711 (by decide +kernel) (by decide +kernel), tb_at 14 (by decide +kernel) (by decide +kernel)⟩
theorem vl_Gr_208 : VLinkO "ParishBoards$Grammar" 208 "ParishBoards$Grammar" ⟨"ParishBoards$Grammar", "value", "(I)V"⟩ := ⟨Or.inl (tb_at 713 (by decide +kernel) (by decide +kernel)), tb_at 715 (by decide +kernel) (by decide +kernel), tb_at 15 (by decide +kernel) (by decide +kernel)⟩
theorem vl_Gr_226 : VLinkO "ParishBoards$Grammar" 226 "ParishBoards$Grammar" ⟨"ParishBoards$Grammar", "pair", "(I)V"⟩ := ⟨Or.inl (tb_at 739 (by decide +kernel) (by decide +kernel)), tb_at 741 (by decide +kernel) (by decide +kernel), tb_at 18 (by decide +kernel) (by decide +kernel)⟩
theorem ol_Nm_3 : Cond.methodLink "ParishBoards$Names" 3 Lib.objectInit ∈ tb := tb_at 376 (by decide +kernel) (by decide +kernel)
theorem vl_Nm_44 : VLinkO "ParishBoards$Names" 44 "ParishBoards$Names" ⟨"ParishBoards$Names", "look", "(I)V"⟩ := ⟨Or.inl (tb_at 807 (by decide +kernel) (by decide +kernel)), tb_at 809 (by decide +kernel) (by decide +kernel), tb_at 24 (by decide +kernel) (by decide +kernel)⟩
theorem vl_Nm_54 : VLinkO "ParishBoards$Names" 54 "ParishBoards$Tokens" ⟨"ParishBoards$Tokens", "kindAt", "(I)LParishBoards$Kind;"⟩ := ⟨Or.inl (tb_at 812 (by decide +kernel) (by decide +kernel)), tb_at 658 (by decide +kernel) (by decide +kernel), tb_at 659 (by decide +kernel) (by decide +kernel)⟩
-- no selects: ParishBoards$Names 58 ('ParishBoards$Kind', 'ordinal', '()I')
theorem vl_Nm_68 : VLinkO "ParishBoards$Names" 68 "ParishBoards$Names" ⟨"ParishBoards$Names", "tell", "(I[JI)I"⟩ := ⟨Or.inl (tb_at 814 (by decide +kernel) (by decide +kernel)), tb_at 816 (by decide +kernel) (by decide +kernel), tb_at 25 (by decide +kernel) (by decide +kernel)⟩
theorem vl_Nm_77 : VLinkO "ParishBoards$Names" 77 "ParishBoards$Names" ⟨"ParishBoards$Names", "find", "(I[JI)V"⟩ := ⟨Or.inl (tb_at 829 (by decide +kernel) (by decide +kernel)), tb_at 831 (by decide +kernel) (by decide +kernel), tb_at 27 (by decide +kernel) (by decide +kernel)⟩
theorem vl_Nm_81 : VLinkO "ParishBoards$Names" 81 "ParishBoards$Names" ⟨"ParishBoards$Names", "findOtherParish", "(II)V"⟩ := ⟨Or.inl (tb_at 837 (by decide +kernel) (by decide +kernel)), tb_at 839 (by decide +kernel) (by decide +kernel), tb_at 28 (by decide +kernel) (by decide +kernel)⟩
theorem vl_Nm_85 : VLinkO "ParishBoards$Names" 85 "ParishBoards$Names" ⟨"ParishBoards$Names", "layRoad", "(I)V"⟩ := ⟨Or.inl (tb_at 845 (by decide +kernel) (by decide +kernel)), tb_at 847 (by decide +kernel) (by decide +kernel), tb_at 29 (by decide +kernel) (by decide +kernel)⟩
theorem vl_Nm_88 : VLinkO "ParishBoards$Names" 88 "ParishBoards$Names" ⟨"ParishBoards$Names", "countOrder", "(I)V"⟩ := ⟨Or.inl (tb_at 854 (by decide +kernel) (by decide +kernel)), tb_at 856 (by decide +kernel) (by decide +kernel), tb_at 30 (by decide +kernel) (by decide +kernel)⟩
theorem vl_Nm_91 : VLinkO "ParishBoards$Names" 91 "ParishBoards$Names" ⟨"ParishBoards$Names", "findBoard", "(I)V"⟩ := ⟨Or.inl (tb_at 858 (by decide +kernel) (by decide +kernel)), tb_at 860 (by decide +kernel) (by decide +kernel), tb_at 31 (by decide +kernel) (by decide +kernel)⟩
theorem vl_Nm_94 : VLinkO "ParishBoards$Names" 94 "ParishBoards$Tokens" ⟨"ParishBoards$Tokens", "worthAt", "(I)J"⟩ := ⟨Or.inl (tb_at 818 (by decide +kernel) (by decide +kernel)), tb_at 819 (by decide +kernel) (by decide +kernel), tb_at 820 (by decide +kernel) (by decide +kernel)⟩
theorem sl_Nm_98 : SLinkO "ParishBoards$Names" 98 ⟨"ParishBoards$Names", "placeOf", "(J[JI)I"⟩ := ⟨Or.inl (tb_at 822 (by decide +kernel) (by decide +kernel)), tb_at 823 (by decide +kernel) (by decide +kernel)⟩
theorem vl_Nm_102 : VLinkO "ParishBoards$Names" 102 "ParishBoards$Names" ⟨"ParishBoards$Names", "fail", "(II)V"⟩ := ⟨Or.inl (tb_at 825 (by decide +kernel) (by decide +kernel)), tb_at 827 (by decide +kernel) (by decide +kernel), tb_at 26 (by decide +kernel) (by decide +kernel)⟩
theorem vl_Nm_105 : VLinkO "ParishBoards$Names" 105 "ParishBoards$Tokens" ⟨"ParishBoards$Tokens", "setMeaning", "(II)V"⟩ := ⟨Or.inl (tb_at 833 (by decide +kernel) (by decide +kernel)), tb_at 834 (by decide +kernel) (by decide +kernel), tb_at 835 (by decide +kernel) (by decide +kernel)⟩
theorem vl_Nm_108 : VLinkO "ParishBoards$Names" 108 "ParishBoards$Tokens" ⟨"ParishBoards$Tokens", "meaningAt", "(I)I"⟩ := ⟨Or.inl (tb_at 841 (by decide +kernel) (by decide +kernel)), tb_at 842 (by decide +kernel) (by decide +kernel), tb_at 843 (by decide +kernel) (by decide +kernel)⟩
theorem vl_Nm_117 : VLinkO "ParishBoards$Names" 117 "ParishBoards$Road" ⟨"ParishBoards$Road", "lay", "(III)V"⟩ := ⟨Or.inl (tb_at 850 (by decide +kernel) (by decide +kernel)), tb_at 851 (by decide +kernel) (by decide +kernel), tb_at 852 (by decide +kernel) (by decide +kernel)⟩
theorem ol_Od_3 : Cond.methodLink "ParishBoards$Order" 3 Lib.objectInit ∈ tb := tb_at 235 (by decide +kernel) (by decide +kernel)
theorem vl_Od_45 : VLinkO "ParishBoards$Order" 45 "ParishBoards$Tokens" ⟨"ParishBoards$Tokens", "meaningAt", "(I)I"⟩ := ⟨Or.inl (tb_at 881 (by decide +kernel) (by decide +kernel)), tb_at 842 (by decide +kernel) (by decide +kernel), tb_at 843 (by decide +kernel) (by decide +kernel)⟩
theorem ol_Pl_3 : Cond.methodLink "ParishBoards$Plan" 3 Lib.objectInit ∈ tb := tb_at 168 (by decide +kernel) (by decide +kernel)
theorem il_Pl_11 : ILinkO "ParishBoards$Plan" 11 ⟨"ParishBoards$Code", "<init>", "()V"⟩ := ⟨Or.inr ⟨"ParishBoards", tb_at 171 (by decide +kernel) (by decide +kernel)⟩, tb_at 172 (by decide +kernel) (by decide +kernel), rfl⟩
theorem il_Pl_43 : ILinkO "ParishBoards$Plan" 43 ⟨"ParishBoards$Road", "<init>", "()V"⟩ := ⟨Or.inr ⟨"ParishBoards", tb_at 205 (by decide +kernel) (by decide +kernel)⟩, tb_at 206 (by decide +kernel) (by decide +kernel), rfl⟩
theorem il_Pl_44 : ILinkO "ParishBoards$Plan" 44 ⟨"ParishBoards$Order", "<init>", "()V"⟩ := ⟨Or.inr ⟨"ParishBoards", tb_at 232 (by decide +kernel) (by decide +kernel)⟩, tb_at 233 (by decide +kernel) (by decide +kernel), rfl⟩
theorem vl_Pl_48 : VLinkO "ParishBoards$Plan" 48 "ParishBoards$Code" ⟨"ParishBoards$Code", "settle", "(LParishBoards$Tokens;)V"⟩ := ⟨Or.inl (tb_at 870 (by decide +kernel) (by decide +kernel)), tb_at 871 (by decide +kernel) (by decide +kernel), tb_at 872 (by decide +kernel) (by decide +kernel)⟩
theorem vl_Pl_52 : VLinkO "ParishBoards$Plan" 52 "ParishBoards$Order" ⟨"ParishBoards$Order", "settle", "(LParishBoards$Tokens;)V"⟩ := ⟨Or.inl (tb_at 877 (by decide +kernel) (by decide +kernel)), tb_at 878 (by decide +kernel) (by decide +kernel), tb_at 879 (by decide +kernel) (by decide +kernel)⟩
theorem ol_Rd_3 : Cond.methodLink "ParishBoards$Road" 3 Lib.objectInit ∈ tb := tb_at 208 (by decide +kernel) (by decide +kernel)
theorem ml_Rd_28 : Cond.methodLink "ParishBoards$Road" 28 arraycopyName ∈ tb := tb_at 891 (by decide +kernel) (by decide +kernel)
theorem ol_Sh_3 : Cond.methodLink "ParishBoards$Sheet" 3 Lib.objectInit ∈ tb := tb_at 418 (by decide +kernel) (by decide +kernel)
theorem ml_Sh_34 : Cond.methodLink "ParishBoards$Sheet" 34 arraycopyName ∈ tb := tb_at 1429 (by decide +kernel) (by decide +kernel)
theorem ol_Tk_3 : Cond.methodLink "ParishBoards$Tokens" 3 Lib.objectInit ∈ tb := tb_at 322 (by decide +kernel) (by decide +kernel)
theorem vl_Tk_39 : VLinkO "ParishBoards$Tokens" 39 "ParishBoards$Tokens" ⟨"ParishBoards$Tokens", "behindBlanks", "(I)I"⟩ := ⟨Or.inl (tb_at 548 (by decide +kernel) (by decide +kernel)), tb_at 550 (by decide +kernel) (by decide +kernel), tb_at 0 (by decide +kernel) (by decide +kernel)⟩
theorem vl_Tk_43 : VLinkO "ParishBoards$Tokens" 43 "ParishBoards$Tokens" ⟨"ParishBoards$Tokens", "behindToken", "(II)I"⟩ := ⟨Or.inl (tb_at 556 (by decide +kernel) (by decide +kernel)), tb_at 558 (by decide +kernel) (by decide +kernel), tb_at 2 (by decide +kernel) (by decide +kernel)⟩
theorem vl_Tk_54 : VLinkO "ParishBoards$Tokens" 54 "ParishBoards$Tokens" ⟨"ParishBoards$Tokens", "behindRun", "(I)I"⟩ := ⟨Or.inl (tb_at 563 (by decide +kernel) (by decide +kernel)), tb_at 565 (by decide +kernel) (by decide +kernel), tb_at 3 (by decide +kernel) (by decide +kernel)⟩
theorem vl_Tk_57 : VLinkO "ParishBoards$Tokens" 57 "ParishBoards$Tokens" ⟨"ParishBoards$Tokens", "kindOf", "(II)LParishBoards$Kind;"⟩ := ⟨Or.inl (tb_at 631 (by decide +kernel) (by decide +kernel)), tb_at 633 (by decide +kernel) (by decide +kernel), tb_at 6 (by decide +kernel) (by decide +kernel)⟩
theorem vl_Tk_64 : VLinkO "ParishBoards$Tokens" 64 "ParishBoards$Tokens" ⟨"ParishBoards$Tokens", "numberWorth", "(II)J"⟩ := ⟨Or.inl (tb_at 639 (by decide +kernel) (by decide +kernel)), tb_at 641 (by decide +kernel) (by decide +kernel), tb_at 7 (by decide +kernel) (by decide +kernel)⟩
theorem vl_Tk_68 : VLinkO "ParishBoards$Tokens" 68 "ParishBoards$Tokens" ⟨"ParishBoards$Tokens", "nameWorth", "(II)J"⟩ := ⟨Or.inl (tb_at 644 (by decide +kernel) (by decide +kernel)), tb_at 646 (by decide +kernel) (by decide +kernel), tb_at 8 (by decide +kernel) (by decide +kernel)⟩
theorem vl_Tk_71 : VLinkO "ParishBoards$Tokens" 71 "ParishBoards$Tokens" ⟨"ParishBoards$Tokens", "byteAt", "(I)I"⟩ := ⟨Or.inl (tb_at 552 (by decide +kernel) (by decide +kernel)), tb_at 554 (by decide +kernel) (by decide +kernel), tb_at 1 (by decide +kernel) (by decide +kernel)⟩
theorem sl_Tk_74 : SLinkO "ParishBoards$Tokens" 74 ⟨"ParishBoards$Tokens", "isLetter", "(I)Z"⟩ := ⟨Or.inl (tb_at 567 (by decide +kernel) (by decide +kernel)), tb_at 568 (by decide +kernel) (by decide +kernel)⟩
theorem sl_Tk_78 : SLinkO "ParishBoards$Tokens" 78 ⟨"ParishBoards$Tokens", "isDigit", "(I)Z"⟩ := ⟨Or.inl (tb_at 570 (by decide +kernel) (by decide +kernel)), tb_at 571 (by decide +kernel) (by decide +kernel)⟩
theorem vl_Tk_81 : VLinkO "ParishBoards$Tokens" 81 "ParishBoards$Tokens" ⟨"ParishBoards$Tokens", "symbolAt", "(I)LParishBoards$Kind;"⟩ := ⟨Or.inl (tb_at 573 (by decide +kernel) (by decide +kernel)), tb_at 575 (by decide +kernel) (by decide +kernel), tb_at 4 (by decide +kernel) (by decide +kernel)⟩
theorem vl_Tk_89 : VLinkO "ParishBoards$Tokens" 89 "java/lang/String" ⟨"java/lang/String", "length", "()I"⟩ := ⟨Or.inl (tb_at 579 (by decide +kernel) (by decide +kernel)), tb_at 580 (by decide +kernel) (by decide +kernel), tb_at 581 (by decide +kernel) (by decide +kernel)⟩
theorem vl_Tk_97 : VLinkO "ParishBoards$Tokens" 97 "ParishBoards$Tokens" ⟨"ParishBoards$Tokens", "standsAt", "(ILjava/lang/String;)Z"⟩ := ⟨Or.inl (tb_at 589 (by decide +kernel) (by decide +kernel)), tb_at 591 (by decide +kernel) (by decide +kernel), tb_at 5 (by decide +kernel) (by decide +kernel)⟩
theorem vl_Tk_104 : VLinkO "ParishBoards$Tokens" 104 "java/lang/String" ⟨"java/lang/String", "charAt", "(I)C"⟩ := ⟨Or.inl (tb_at 593 (by decide +kernel) (by decide +kernel)), tb_at 594 (by decide +kernel) (by decide +kernel), tb_at 595 (by decide +kernel) (by decide +kernel)⟩
theorem ol_Wd_3 : Cond.methodLink "ParishBoards$World" 3 Lib.objectInit ∈ tb := tb_at 408 (by decide +kernel) (by decide +kernel)
theorem il_Wd_46 : ILinkO "ParishBoards$World" 46 ⟨"ParishBoards$Sheet", "<init>", "()V"⟩ := ⟨Or.inr ⟨"ParishBoards", tb_at 415 (by decide +kernel) (by decide +kernel)⟩, tb_at 416 (by decide +kernel) (by decide +kernel), rfl⟩
theorem il_Wd_47 : ILinkO "ParishBoards$World" 47 ⟨"ParishBoards$Board", "<init>", "()V"⟩ := ⟨Or.inl (tb_at 452 (by decide +kernel) (by decide +kernel)), tb_at 453 (by decide +kernel) (by decide +kernel), rfl⟩
theorem il_Wd_48 : ILinkO "ParishBoards$World" 48 ⟨"ParishBoards$Road", "<init>", "()V"⟩ := ⟨Or.inr ⟨"ParishBoards", tb_at 478 (by decide +kernel) (by decide +kernel)⟩, tb_at 206 (by decide +kernel) (by decide +kernel), rfl⟩
theorem vl_Wd_49 : VLinkO "ParishBoards$World" 49 "ParishBoards$Board" ⟨"ParishBoards$Board", "clear", "()V"⟩ := ⟨Or.inl (tb_at 886 (by decide +kernel) (by decide +kernel)), tb_at 457 (by decide +kernel) (by decide +kernel), tb_at 458 (by decide +kernel) (by decide +kernel)⟩
theorem vl_Wd_58 : VLinkO "ParishBoards$World" 58 "ParishBoards$Road" ⟨"ParishBoards$Road", "copyFrom", "(LParishBoards$Road;)V"⟩ := ⟨Or.inl (tb_at 887 (by decide +kernel) (by decide +kernel)), tb_at 888 (by decide +kernel) (by decide +kernel), tb_at 889 (by decide +kernel) (by decide +kernel)⟩
theorem vl_Wd_62 : VLinkO "ParishBoards$World" 62 "ParishBoards$Sheet" ⟨"ParishBoards$Sheet", "copyFrom", "(LParishBoards$Sheet;)V"⟩ := ⟨Or.inl (tb_at 1425 (by decide +kernel) (by decide +kernel)), tb_at 1426 (by decide +kernel) (by decide +kernel), tb_at 1427 (by decide +kernel) (by decide +kernel)⟩
theorem vl_Wd_68 : VLinkO "ParishBoards$World" 68 "ParishBoards$Board" ⟨"ParishBoards$Board", "copyFrom", "(LParishBoards$Board;)V"⟩ := ⟨Or.inl (tb_at 1430 (by decide +kernel) (by decide +kernel)), tb_at 1431 (by decide +kernel) (by decide +kernel), tb_at 1432 (by decide +kernel) (by decide +kernel)⟩
theorem vl_Wd_77 : VLinkO "ParishBoards$World" 77 "ParishBoards$World" ⟨"ParishBoards$World", "underWayOnRoads", "()I"⟩ := ⟨Or.inl (tb_at 947 (by decide +kernel) (by decide +kernel)), tb_at 949 (by decide +kernel) (by decide +kernel), tb_at 34 (by decide +kernel) (by decide +kernel)⟩
theorem vl_Wd_81 : VLinkO "ParishBoards$World" 81 "ParishBoards$World" ⟨"ParishBoards$World", "waitingAtBoards", "()I"⟩ := ⟨Or.inl (tb_at 955 (by decide +kernel) (by decide +kernel)), tb_at 957 (by decide +kernel) (by decide +kernel), tb_at 36 (by decide +kernel) (by decide +kernel)⟩
theorem vl_Wd_84 : VLinkO "ParishBoards$World" 84 "ParishBoards$World" ⟨"ParishBoards$World", "tornOnBoards", "()I"⟩ := ⟨Or.inl (tb_at 959 (by decide +kernel) (by decide +kernel)), tb_at 961 (by decide +kernel) (by decide +kernel), tb_at 37 (by decide +kernel) (by decide +kernel)⟩
theorem vl_Wd_87 : VLinkO "ParishBoards$World" 87 "ParishBoards$World" ⟨"ParishBoards$World", "mergedSheets", "()I"⟩ := ⟨Or.inl (tb_at 975 (by decide +kernel) (by decide +kernel)), tb_at 977 (by decide +kernel) (by decide +kernel), tb_at 38 (by decide +kernel) (by decide +kernel)⟩
theorem vl_Wd_90 : VLinkO "ParishBoards$World" 90 "ParishBoards$Board" ⟨"ParishBoards$Board", "knownCount", "()I"⟩ := ⟨Or.inl (tb_at 930 (by decide +kernel) (by decide +kernel)), tb_at 931 (by decide +kernel) (by decide +kernel), tb_at 932 (by decide +kernel) (by decide +kernel)⟩
theorem vl_Wd_96 : VLinkO "ParishBoards$World" 96 "ParishBoards$Board" ⟨"ParishBoards$Board", "noticesWith", "(I)I"⟩ := ⟨Or.inl (tb_at 963 (by decide +kernel) (by decide +kernel)), tb_at 964 (by decide +kernel) (by decide +kernel), tb_at 965 (by decide +kernel) (by decide +kernel)⟩
theorem vl_Wd_104 : VLinkO "ParishBoards$World" 104 "ParishBoards$World" ⟨"ParishBoards$World", "roadsFrom", "(I)I"⟩ := ⟨Or.inl (tb_at 991 (by decide +kernel) (by decide +kernel)), tb_at 993 (by decide +kernel) (by decide +kernel), tb_at 40 (by decide +kernel) (by decide +kernel)⟩
theorem vl_Wd_123 : VLinkO "ParishBoards$World" 123 "ParishBoards$World" ⟨"ParishBoards$World", "knowers", "(I)I"⟩ := ⟨Or.inl (tb_at 1008 (by decide +kernel) (by decide +kernel)), tb_at 911 (by decide +kernel) (by decide +kernel), tb_at 912 (by decide +kernel) (by decide +kernel)⟩
theorem vl_Wd_126 : VLinkO "ParishBoards$World" 126 "ParishBoards$World" ⟨"ParishBoards$World", "showers", "(I)I"⟩ := ⟨Or.inl (tb_at 1009 (by decide +kernel) (by decide +kernel)), tb_at 1011 (by decide +kernel) (by decide +kernel), tb_at 42 (by decide +kernel) (by decide +kernel)⟩
theorem vl_Wd_138 : VLinkO "ParishBoards$World" 138 "ParishBoards$World" ⟨"ParishBoards$World", "underWayOn", "(LParishBoards$Road;)I"⟩ := ⟨Or.inl (tb_at 951 (by decide +kernel) (by decide +kernel)), tb_at 953 (by decide +kernel) (by decide +kernel), tb_at 35 (by decide +kernel) (by decide +kernel)⟩
theorem vl_Wd_145 : VLinkO "ParishBoards$World" 145 "ParishBoards$Board" ⟨"ParishBoards$Board", "has", "(LParishBoards$Sheet;)Z"⟩ := ⟨Or.inl (tb_at 918 (by decide +kernel) (by decide +kernel)), tb_at 919 (by decide +kernel) (by decide +kernel), tb_at 920 (by decide +kernel) (by decide +kernel)⟩
theorem vl_Wd_149 : VLinkO "ParishBoards$World" 149 "ParishBoards$World" ⟨"ParishBoards$World", "isKnownAt", "(II)Z"⟩ := ⟨Or.inl (tb_at 914 (by decide +kernel) (by decide +kernel)), tb_at 915 (by decide +kernel) (by decide +kernel), tb_at 916 (by decide +kernel) (by decide +kernel)⟩
theorem vl_Wd_153 : VLinkO "ParishBoards$World" 153 "ParishBoards$Board" ⟨"ParishBoards$Board", "shownFrom", "(II)I"⟩ := ⟨Or.inl (tb_at 1013 (by decide +kernel) (by decide +kernel)), tb_at 972 (by decide +kernel) (by decide +kernel), tb_at 973 (by decide +kernel) (by decide +kernel)⟩
-- no selects: ParishBoards$World 165 ('ParishBoards$Kind', 'ordinal', '()I')
theorem vl_Wd_170 : VLinkO "ParishBoards$World" 170 "ParishBoards$Board" ⟨"ParishBoards$Board", "shownAt", "(II)I"⟩ := ⟨Or.inl (tb_at 1282 (by decide +kernel) (by decide +kernel)), tb_at 997 (by decide +kernel) (by decide +kernel), tb_at 998 (by decide +kernel) (by decide +kernel)⟩
theorem vl_Wd_173 : VLinkO "ParishBoards$World" 173 "ParishBoards$Board" ⟨"ParishBoards$Board", "shownCount", "(I)I"⟩ := ⟨Or.inl (tb_at 1268 (by decide +kernel) (by decide +kernel)), tb_at 968 (by decide +kernel) (by decide +kernel), tb_at 969 (by decide +kernel) (by decide +kernel)⟩
theorem vl_Wd_176 : VLinkO "ParishBoards$World" 176 "ParishBoards$World" ⟨"ParishBoards$World", "marksShown", "(LParishBoards$Board;I)I"⟩ := ⟨Or.inl (tb_at 1239 (by decide +kernel) (by decide +kernel)), tb_at 1241 (by decide +kernel) (by decide +kernel), tb_at 49 (by decide +kernel) (by decide +kernel)⟩
theorem sl_Wd_180 : SLinkO "ParishBoards$World" 180 ⟨"java/lang/Integer", "bitCount", "(I)I"⟩ := ⟨Or.inl (tb_at 1283 (by decide +kernel) (by decide +kernel)), tb_at 1284 (by decide +kernel) (by decide +kernel)⟩
theorem vl_Wd_185 : VLinkO "ParishBoards$World" 185 "ParishBoards$World" ⟨"ParishBoards$World", "make", "(IIIII)I"⟩ := ⟨Or.inl (tb_at 1243 (by decide +kernel) (by decide +kernel)), tb_at 1245 (by decide +kernel) (by decide +kernel), tb_at 50 (by decide +kernel) (by decide +kernel)⟩
theorem vl_Wd_193 : VLinkO "ParishBoards$World" 193 "ParishBoards$World" ⟨"ParishBoards$World", "answer", "(LParishBoards$Kind;II)I"⟩ := ⟨Or.inl (tb_at 1276 (by decide +kernel) (by decide +kernel)), tb_at 1277 (by decide +kernel) (by decide +kernel), tb_at 1278 (by decide +kernel) (by decide +kernel)⟩
theorem sl_Wd_197 : SLinkO "ParishBoards$World" 197 ⟨"java/lang/Math", "min", "(II)I"⟩ := ⟨Or.inl (tb_at 1306 (by decide +kernel) (by decide +kernel)), tb_at 1307 (by decide +kernel) (by decide +kernel)⟩
theorem sl_Wd_202 : SLinkO "ParishBoards$World" 202 ⟨"java/lang/Math", "max", "(II)I"⟩ := ⟨Or.inl (tb_at 1309 (by decide +kernel) (by decide +kernel)), tb_at 1310 (by decide +kernel) (by decide +kernel)⟩
theorem vl_Wd_205 : VLinkO "ParishBoards$World" 205 "ParishBoards$World" ⟨"ParishBoards$World", "isFull", "()Z"⟩ := ⟨Or.inl (tb_at 1247 (by decide +kernel) (by decide +kernel)), tb_at 1231 (by decide +kernel) (by decide +kernel), tb_at 1232 (by decide +kernel) (by decide +kernel)⟩
theorem ml_Wd_212 : Cond.methodLink "ParishBoards$World" 212 arraycopyName ∈ tb := tb_at 1248 (by decide +kernel) (by decide +kernel)
theorem vl_Wd_218 : VLinkO "ParishBoards$World" 218 "ParishBoards$Board" ⟨"ParishBoards$Board", "show", "(III)V"⟩ := ⟨Or.inl (tb_at 1249 (by decide +kernel) (by decide +kernel)), tb_at 1250 (by decide +kernel) (by decide +kernel), tb_at 1251 (by decide +kernel) (by decide +kernel)⟩
theorem vl_Wd_226 : VLinkO "ParishBoards$World" 226 "ParishBoards$World" ⟨"ParishBoards$World", "carriesOut", "(LParishBoards$Order;)Z"⟩ := ⟨Or.inl (tb_at 1343 (by decide +kernel) (by decide +kernel)), tb_at 1345 (by decide +kernel) (by decide +kernel), tb_at 51 (by decide +kernel) (by decide +kernel)⟩
theorem vl_Wd_230 : VLinkO "ParishBoards$World" 230 "ParishBoards$World" ⟨"ParishBoards$World", "bringFrom", "(LParishBoards$Road;)V"⟩ := ⟨Or.inl (tb_at 1388 (by decide +kernel) (by decide +kernel)), tb_at 1390 (by decide +kernel) (by decide +kernel), tb_at 55 (by decide +kernel) (by decide +kernel)⟩
theorem vl_Wd_233 : VLinkO "ParishBoards$World" 233 "ParishBoards$World" ⟨"ParishBoards$World", "hangOn", "(LParishBoards$Board;)V"⟩ := ⟨Or.inl (tb_at 1396 (by decide +kernel) (by decide +kernel)), tb_at 1398 (by decide +kernel) (by decide +kernel), tb_at 56 (by decide +kernel) (by decide +kernel)⟩
theorem vl_Wd_236 : VLinkO "ParishBoards$World" 236 "ParishBoards$Order" ⟨"ParishBoards$Order", "hasTest", "()Z"⟩ := ⟨Or.inl (tb_at 1347 (by decide +kernel) (by decide +kernel)), tb_at 1348 (by decide +kernel) (by decide +kernel), tb_at 1349 (by decide +kernel) (by decide +kernel)⟩
theorem vl_Wd_251 : VLinkO "ParishBoards$World" 251 "ParishBoards$Code" ⟨"ParishBoards$Code", "reckon", "(IILParishBoards$World;)I"⟩ := ⟨Or.inl (tb_at 1351 (by decide +kernel) (by decide +kernel)), tb_at 1352 (by decide +kernel) (by decide +kernel), tb_at 1353 (by decide +kernel) (by decide +kernel)⟩
theorem vl_Wd_266 : VLinkO "ParishBoards$World" 266 "ParishBoards$World" ⟨"ParishBoards$World", "carry", "(I)I"⟩ := ⟨Or.inl (tb_at 1375 (by decide +kernel) (by decide +kernel)), tb_at 1321 (by decide +kernel) (by decide +kernel), tb_at 1322 (by decide +kernel) (by decide +kernel)⟩
theorem vl_Wd_274 : VLinkO "ParishBoards$World" 274 "ParishBoards$World" ⟨"ParishBoards$World", "canMerge", "(II)Z"⟩ := ⟨Or.inl (tb_at 1377 (by decide +kernel) (by decide +kernel)), tb_at 1298 (by decide +kernel) (by decide +kernel), tb_at 1299 (by decide +kernel) (by decide +kernel)⟩
theorem vl_Wd_280 : VLinkO "ParishBoards$World" 280 "ParishBoards$World" ⟨"ParishBoards$World", "makeMerged", "(III)I"⟩ := ⟨Or.inl (tb_at 1378 (by decide +kernel) (by decide +kernel)), tb_at 1303 (by decide +kernel) (by decide +kernel), tb_at 1304 (by decide +kernel) (by decide +kernel)⟩
theorem vl_Wd_290 : VLinkO "ParishBoards$World" 290 "ParishBoards$World" ⟨"ParishBoards$World", "isNewMark", "(III)Z"⟩ := ⟨Or.inl (tb_at 1380 (by decide +kernel) (by decide +kernel)), tb_at 1382 (by decide +kernel) (by decide +kernel), tb_at 54 (by decide +kernel) (by decide +kernel)⟩
theorem vl_Wd_294 : VLinkO "ParishBoards$World" 294 "ParishBoards$World" ⟨"ParishBoards$World", "makeNoted", "(III)I"⟩ := ⟨Or.inl (tb_at 1386 (by decide +kernel) (by decide +kernel)), tb_at 1271 (by decide +kernel) (by decide +kernel), tb_at 1272 (by decide +kernel) (by decide +kernel)⟩
theorem vl_Wd_297 : VLinkO "ParishBoards$World" 297 "ParishBoards$World" ⟨"ParishBoards$World", "makeWritten", "(III)I"⟩ := ⟨Or.inl (tb_at 1387 (by decide +kernel) (by decide +kernel)), tb_at 1236 (by decide +kernel) (by decide +kernel), tb_at 1237 (by decide +kernel) (by decide +kernel)⟩
theorem sl_Wd_300 : SLinkO "ParishBoards$World" 300 ⟨"ParishBoards", "isMark", "(I)Z"⟩ := ⟨Or.inr ⟨"ParishBoards", tb_at 1384 (by decide +kernel) (by decide +kernel)⟩, tb_at 1261 (by decide +kernel) (by decide +kernel)⟩
theorem vl_Wd_304 : VLinkO "ParishBoards$World" 304 "ParishBoards$World" ⟨"ParishBoards$World", "canNote", "(II)Z"⟩ := ⟨Or.inl (tb_at 1385 (by decide +kernel) (by decide +kernel)), tb_at 1265 (by decide +kernel) (by decide +kernel), tb_at 1266 (by decide +kernel) (by decide +kernel)⟩
theorem vl_Wd_307 : VLinkO "ParishBoards$World" 307 "ParishBoards$Board" ⟨"ParishBoards$Board", "keepWaiting", "(I)V"⟩ := ⟨Or.inl (tb_at 1392 (by decide +kernel) (by decide +kernel)), tb_at 1393 (by decide +kernel) (by decide +kernel), tb_at 1394 (by decide +kernel) (by decide +kernel)⟩
theorem vl_Wd_315 : VLinkO "ParishBoards$World" 315 "ParishBoards$Board" ⟨"ParishBoards$Board", "canHang", "(LParishBoards$Sheet;)Z"⟩ := ⟨Or.inl (tb_at 1400 (by decide +kernel) (by decide +kernel)), tb_at 1401 (by decide +kernel) (by decide +kernel), tb_at 1402 (by decide +kernel) (by decide +kernel)⟩
theorem vl_Wd_318 : VLinkO "ParishBoards$World" 318 "ParishBoards$World" ⟨"ParishBoards$World", "hang", "(LParishBoards$Board;I)V"⟩ := ⟨Or.inl (tb_at 1404 (by decide +kernel) (by decide +kernel)), tb_at 1406 (by decide +kernel) (by decide +kernel), tb_at 57 (by decide +kernel) (by decide +kernel)⟩
theorem vl_Wd_322 : VLinkO "ParishBoards$World" 322 "ParishBoards$Board" ⟨"ParishBoards$Board", "endWaiting", "(I)V"⟩ := ⟨Or.inl (tb_at 1408 (by decide +kernel) (by decide +kernel)), tb_at 1409 (by decide +kernel) (by decide +kernel), tb_at 1410 (by decide +kernel) (by decide +kernel)⟩
theorem vl_Wd_325 : VLinkO "ParishBoards$World" 325 "ParishBoards$Sheet" ⟨"ParishBoards$Sheet", "isAheadOf", "(LParishBoards$Sheet;)Z"⟩ := ⟨Or.inl (tb_at 1412 (by decide +kernel) (by decide +kernel)), tb_at 1207 (by decide +kernel) (by decide +kernel), tb_at 1208 (by decide +kernel) (by decide +kernel)⟩
theorem vl_LW_7 : VLinkO "ParishBoardsLaw" 7 "ParishBoards" ⟨"ParishBoards", "feed", "(IIIII)I"⟩ := ⟨Or.inl (tb_at 1022 (by decide +kernel) (by decide +kernel)), tb_at 1023 (by decide +kernel) (by decide +kernel), tb_at 1024 (by decide +kernel) (by decide +kernel)⟩
theorem vl_LW_15 : VLinkO "ParishBoardsLaw" 15 "ParishBoards" ⟨"ParishBoards", "trim", "(I)I"⟩ := ⟨Or.inl (tb_at 1101 (by decide +kernel) (by decide +kernel)), tb_at 1102 (by decide +kernel) (by decide +kernel), tb_at 1103 (by decide +kernel) (by decide +kernel)⟩
theorem vl_LW_21 : VLinkO "ParishBoardsLaw" 21 "ParishBoards" ⟨"ParishBoards", "count", "(I)I"⟩ := ⟨Or.inl (tb_at 1125 (by decide +kernel) (by decide +kernel)), tb_at 1126 (by decide +kernel) (by decide +kernel), tb_at 1127 (by decide +kernel) (by decide +kernel)⟩
theorem vl_LW_26 : VLinkO "ParishBoardsLaw" 26 "ParishBoards" ⟨"ParishBoards", "parish", "(II)I"⟩ := ⟨Or.inl (tb_at 1148 (by decide +kernel) (by decide +kernel)), tb_at 1149 (by decide +kernel) (by decide +kernel), tb_at 1150 (by decide +kernel) (by decide +kernel)⟩
theorem vl_LW_30 : VLinkO "ParishBoardsLaw" 30 "ParishBoards" ⟨"ParishBoards", "knows", "(II)I"⟩ := ⟨Or.inl (tb_at 1160 (by decide +kernel) (by decide +kernel)), tb_at 1161 (by decide +kernel) (by decide +kernel), tb_at 1162 (by decide +kernel) (by decide +kernel)⟩
theorem vl_LW_33 : VLinkO "ParishBoardsLaw" 33 "ParishBoards" ⟨"ParishBoards", "sheet", "(II)I"⟩ := ⟨Or.inl (tb_at 1168 (by decide +kernel) (by decide +kernel)), tb_at 1169 (by decide +kernel) (by decide +kernel), tb_at 1170 (by decide +kernel) (by decide +kernel)⟩
theorem vl_LW_36 : VLinkO "ParishBoardsLaw" 36 "ParishBoards" ⟨"ParishBoards", "stamp", "(II)I"⟩ := ⟨Or.inl (tb_at 1180 (by decide +kernel) (by decide +kernel)), tb_at 1181 (by decide +kernel) (by decide +kernel), tb_at 1182 (by decide +kernel) (by decide +kernel)⟩
theorem vl_LW_39 : VLinkO "ParishBoardsLaw" 39 "ParishBoards" ⟨"ParishBoards", "shown", "(III)I"⟩ := ⟨Or.inl (tb_at 1188 (by decide +kernel) (by decide +kernel)), tb_at 1189 (by decide +kernel) (by decide +kernel), tb_at 1190 (by decide +kernel) (by decide +kernel)⟩
theorem vl_LW_43 : VLinkO "ParishBoardsLaw" 43 "ParishBoards" ⟨"ParishBoards", "compare", "(II)I"⟩ := ⟨Or.inl (tb_at 1201 (by decide +kernel) (by decide +kernel)), tb_at 1202 (by decide +kernel) (by decide +kernel), tb_at 1203 (by decide +kernel) (by decide +kernel)⟩
theorem vl_LW_46 : VLinkO "ParishBoardsLaw" 46 "ParishBoards" ⟨"ParishBoards", "road", "(II)I"⟩ := ⟨Or.inl (tb_at 1213 (by decide +kernel) (by decide +kernel)), tb_at 1214 (by decide +kernel) (by decide +kernel), tb_at 1215 (by decide +kernel) (by decide +kernel)⟩
theorem vl_LW_49 : VLinkO "ParishBoardsLaw" 49 "ParishBoards" ⟨"ParishBoards", "write", "(III)I"⟩ := ⟨Or.inl (tb_at 1225 (by decide +kernel) (by decide +kernel)), tb_at 1226 (by decide +kernel) (by decide +kernel), tb_at 1227 (by decide +kernel) (by decide +kernel)⟩
theorem vl_LW_52 : VLinkO "ParishBoardsLaw" 52 "ParishBoards" ⟨"ParishBoards", "note", "(III)I"⟩ := ⟨Or.inl (tb_at 1256 (by decide +kernel) (by decide +kernel)), tb_at 1257 (by decide +kernel) (by decide +kernel), tb_at 1258 (by decide +kernel) (by decide +kernel)⟩
theorem vl_LW_55 : VLinkO "ParishBoardsLaw" 55 "ParishBoards" ⟨"ParishBoards", "merge", "(III)I"⟩ := ⟨Or.inl (tb_at 1292 (by decide +kernel) (by decide +kernel)), tb_at 1293 (by decide +kernel) (by decide +kernel), tb_at 1294 (by decide +kernel) (by decide +kernel)⟩
theorem vl_LW_58 : VLinkO "ParishBoardsLaw" 58 "ParishBoards" ⟨"ParishBoards", "send", "(I)I"⟩ := ⟨Or.inl (tb_at 1315 (by decide +kernel) (by decide +kernel)), tb_at 1316 (by decide +kernel) (by decide +kernel), tb_at 1317 (by decide +kernel) (by decide +kernel)⟩
theorem vl_LW_61 : VLinkO "ParishBoardsLaw" 61 "ParishBoards" ⟨"ParishBoards", "setDays", "(II)I"⟩ := ⟨Or.inl (tb_at 1327 (by decide +kernel) (by decide +kernel)), tb_at 1328 (by decide +kernel) (by decide +kernel), tb_at 1329 (by decide +kernel) (by decide +kernel)⟩
theorem vl_LW_64 : VLinkO "ParishBoardsLaw" 64 "ParishBoards" ⟨"ParishBoards", "pass", "(I)I"⟩ := ⟨Or.inl (tb_at 1335 (by decide +kernel) (by decide +kernel)), tb_at 1336 (by decide +kernel) (by decide +kernel), tb_at 1337 (by decide +kernel) (by decide +kernel)⟩
theorem vl_LW_67 : VLinkO "ParishBoardsLaw" 67 "ParishBoards" ⟨"ParishBoards", "foresee", "(II)I"⟩ := ⟨Or.inl (tb_at 1416 (by decide +kernel) (by decide +kernel)), tb_at 1417 (by decide +kernel) (by decide +kernel), tb_at 1418 (by decide +kernel) (by decide +kernel)⟩
theorem vl_LW_70 : VLinkO "ParishBoardsLaw" 70 "ParishBoards" ⟨"ParishBoards", "until", "(II)I"⟩ := ⟨Or.inl (tb_at 1438 (by decide +kernel) (by decide +kernel)), tb_at 1439 (by decide +kernel) (by decide +kernel), tb_at 1440 (by decide +kernel) (by decide +kernel)⟩
theorem vl_LW_73 : VLinkO "ParishBoardsLaw" 73 "ParishBoards" ⟨"ParishBoards", "advise", "(I)I"⟩ := ⟨Or.inl (tb_at 1447 (by decide +kernel) (by decide +kernel)), tb_at 1448 (by decide +kernel) (by decide +kernel), tb_at 1449 (by decide +kernel) (by decide +kernel)⟩
theorem il_LW_76 : ILinkO "ParishBoardsLaw" 76 ⟨"ParishBoards", "<init>", "()V"⟩ := ⟨Or.inl (tb_at 157 (by decide +kernel) (by decide +kernel)), tb_at 158 (by decide +kernel) (by decide +kernel), rfl⟩
theorem il_LW_79 : ILinkO "ParishBoardsLaw" 79 ⟨"ParishBoardsModel", "<init>", "()V"⟩ := ⟨Or.inl (tb_at 1453 (by decide +kernel) (by decide +kernel)), tb_at 1454 (by decide +kernel) (by decide +kernel), rfl⟩
theorem sl_LW_80 : SLinkO "ParishBoardsLaw" 80 ⟨"ParishBoardsLaw", "feed", "(LParishBoards;IIIII[J)I"⟩ := ⟨Or.inl (tb_at 1018 (by decide +kernel) (by decide +kernel)), tb_at 1019 (by decide +kernel) (by decide +kernel)⟩
theorem vl_LW_85 : VLinkO "ParishBoardsLaw" 85 "ParishBoardsModel" ⟨"ParishBoardsModel", "feed", "(IIIII)I"⟩ := ⟨Or.inl (tb_at 1698 (by decide +kernel) (by decide +kernel)), tb_at 1699 (by decide +kernel) (by decide +kernel), tb_at 1700 (by decide +kernel) (by decide +kernel)⟩
theorem vl_LW_86 : VLinkO "ParishBoardsLaw" 86 "ParishBoardsModel" ⟨"ParishBoardsModel", "thrown", "()I"⟩ := ⟨Or.inl (tb_at 1694 (by decide +kernel) (by decide +kernel)), tb_at 1695 (by decide +kernel) (by decide +kernel), tb_at 1696 (by decide +kernel) (by decide +kernel)⟩
theorem sl_LW_90 : SLinkO "ParishBoardsLaw" 90 ⟨"ParishBoardsLaw", "trim", "(LParishBoards;I[J)I"⟩ := ⟨Or.inl (tb_at 1097 (by decide +kernel) (by decide +kernel)), tb_at 1098 (by decide +kernel) (by decide +kernel)⟩
theorem vl_LW_93 : VLinkO "ParishBoardsLaw" 93 "ParishBoardsModel" ⟨"ParishBoardsModel", "trim", "(I)I"⟩ := ⟨Or.inl (tb_at 1706 (by decide +kernel) (by decide +kernel)), tb_at 1707 (by decide +kernel) (by decide +kernel), tb_at 1708 (by decide +kernel) (by decide +kernel)⟩
theorem vl_LW_94 : VLinkO "ParishBoardsLaw" 94 "ParishBoards" ⟨"ParishBoards", "teach", "()I"⟩ := ⟨Or.inl (tb_at 540 (by decide +kernel) (by decide +kernel)), tb_at 541 (by decide +kernel) (by decide +kernel), tb_at 542 (by decide +kernel) (by decide +kernel)⟩
theorem vl_LW_97 : VLinkO "ParishBoardsLaw" 97 "ParishBoardsModel" ⟨"ParishBoardsModel", "teach", "()I"⟩ := ⟨Or.inl (tb_at 1713 (by decide +kernel) (by decide +kernel)), tb_at 1714 (by decide +kernel) (by decide +kernel), tb_at 1715 (by decide +kernel) (by decide +kernel)⟩
theorem vl_LW_98 : VLinkO "ParishBoardsLaw" 98 "ParishBoards" ⟨"ParishBoards", "errorAt", "()I"⟩ := ⟨Or.inl (tb_at 894 (by decide +kernel) (by decide +kernel)), tb_at 895 (by decide +kernel) (by decide +kernel), tb_at 896 (by decide +kernel) (by decide +kernel)⟩
theorem vl_LW_101 : VLinkO "ParishBoardsLaw" 101 "ParishBoardsModel" ⟨"ParishBoardsModel", "errorAt", "()I"⟩ := ⟨Or.inl (tb_at 1944 (by decide +kernel) (by decide +kernel)), tb_at 1945 (by decide +kernel) (by decide +kernel), tb_at 1946 (by decide +kernel) (by decide +kernel)⟩
theorem sl_LW_102 : SLinkO "ParishBoardsLaw" 102 ⟨"ParishBoardsLaw", "count", "(LParishBoards;I[J)I"⟩ := ⟨Or.inl (tb_at 1121 (by decide +kernel) (by decide +kernel)), tb_at 1122 (by decide +kernel) (by decide +kernel)⟩
theorem vl_LW_104 : VLinkO "ParishBoardsLaw" 104 "ParishBoardsModel" ⟨"ParishBoardsModel", "count", "(I)I"⟩ := ⟨Or.inl (tb_at 1948 (by decide +kernel) (by decide +kernel)), tb_at 1949 (by decide +kernel) (by decide +kernel), tb_at 1950 (by decide +kernel) (by decide +kernel)⟩
theorem sl_LW_105 : SLinkO "ParishBoardsLaw" 105 ⟨"ParishBoardsLaw", "parish", "(LParishBoards;II[J)I"⟩ := ⟨Or.inl (tb_at 1145 (by decide +kernel) (by decide +kernel)), tb_at 1146 (by decide +kernel) (by decide +kernel)⟩
theorem vl_LW_108 : VLinkO "ParishBoardsLaw" 108 "ParishBoardsModel" ⟨"ParishBoardsModel", "parish", "(II)I"⟩ := ⟨Or.inl (tb_at 1983 (by decide +kernel) (by decide +kernel)), tb_at 1984 (by decide +kernel) (by decide +kernel), tb_at 1985 (by decide +kernel) (by decide +kernel)⟩
theorem sl_LW_109 : SLinkO "ParishBoardsLaw" 109 ⟨"ParishBoardsLaw", "knows", "(LParishBoards;II[J)I"⟩ := ⟨Or.inl (tb_at 1157 (by decide +kernel) (by decide +kernel)), tb_at 1158 (by decide +kernel) (by decide +kernel)⟩
theorem vl_LW_111 : VLinkO "ParishBoardsLaw" 111 "ParishBoardsModel" ⟨"ParishBoardsModel", "knows", "(II)I"⟩ := ⟨Or.inl (tb_at 2010 (by decide +kernel) (by decide +kernel)), tb_at 2011 (by decide +kernel) (by decide +kernel), tb_at 2012 (by decide +kernel) (by decide +kernel)⟩
theorem sl_LW_112 : SLinkO "ParishBoardsLaw" 112 ⟨"ParishBoardsLaw", "sheet", "(LParishBoards;II[J)I"⟩ := ⟨Or.inl (tb_at 1165 (by decide +kernel) (by decide +kernel)), tb_at 1166 (by decide +kernel) (by decide +kernel)⟩
theorem vl_LW_114 : VLinkO "ParishBoardsLaw" 114 "ParishBoardsModel" ⟨"ParishBoardsModel", "sheet", "(II)I"⟩ := ⟨Or.inl (tb_at 2014 (by decide +kernel) (by decide +kernel)), tb_at 2015 (by decide +kernel) (by decide +kernel), tb_at 2016 (by decide +kernel) (by decide +kernel)⟩
theorem sl_LW_115 : SLinkO "ParishBoardsLaw" 115 ⟨"ParishBoardsLaw", "stamp", "(LParishBoards;II[J)I"⟩ := ⟨Or.inl (tb_at 1177 (by decide +kernel) (by decide +kernel)), tb_at 1178 (by decide +kernel) (by decide +kernel)⟩
theorem vl_LW_117 : VLinkO "ParishBoardsLaw" 117 "ParishBoardsModel" ⟨"ParishBoardsModel", "stamp", "(II)I"⟩ := ⟨Or.inl (tb_at 2039 (by decide +kernel) (by decide +kernel)), tb_at 2040 (by decide +kernel) (by decide +kernel), tb_at 2041 (by decide +kernel) (by decide +kernel)⟩
theorem sl_LW_118 : SLinkO "ParishBoardsLaw" 118 ⟨"ParishBoardsLaw", "shown", "(LParishBoards;III[J)I"⟩ := ⟨Or.inl (tb_at 1185 (by decide +kernel) (by decide +kernel)), tb_at 1186 (by decide +kernel) (by decide +kernel)⟩
theorem vl_LW_121 : VLinkO "ParishBoardsLaw" 121 "ParishBoardsModel" ⟨"ParishBoardsModel", "shown", "(III)I"⟩ := ⟨Or.inl (tb_at 2044 (by decide +kernel) (by decide +kernel)), tb_at 2045 (by decide +kernel) (by decide +kernel), tb_at 2046 (by decide +kernel) (by decide +kernel)⟩
theorem sl_LW_122 : SLinkO "ParishBoardsLaw" 122 ⟨"ParishBoardsLaw", "compare", "(LParishBoards;II[J)I"⟩ := ⟨Or.inl (tb_at 1198 (by decide +kernel) (by decide +kernel)), tb_at 1199 (by decide +kernel) (by decide +kernel)⟩
theorem vl_LW_124 : VLinkO "ParishBoardsLaw" 124 "ParishBoardsModel" ⟨"ParishBoardsModel", "compare", "(II)I"⟩ := ⟨Or.inl (tb_at 2057 (by decide +kernel) (by decide +kernel)), tb_at 2058 (by decide +kernel) (by decide +kernel), tb_at 2059 (by decide +kernel) (by decide +kernel)⟩
theorem sl_LW_125 : SLinkO "ParishBoardsLaw" 125 ⟨"ParishBoardsLaw", "road", "(LParishBoards;II[J)I"⟩ := ⟨Or.inl (tb_at 1210 (by decide +kernel) (by decide +kernel)), tb_at 1211 (by decide +kernel) (by decide +kernel)⟩
theorem vl_LW_127 : VLinkO "ParishBoardsLaw" 127 "ParishBoardsModel" ⟨"ParishBoardsModel", "road", "(II)I"⟩ := ⟨Or.inl (tb_at 2065 (by decide +kernel) (by decide +kernel)), tb_at 2066 (by decide +kernel) (by decide +kernel), tb_at 2067 (by decide +kernel) (by decide +kernel)⟩
theorem sl_LW_128 : SLinkO "ParishBoardsLaw" 128 ⟨"ParishBoardsLaw", "write", "(LParishBoards;III[J)I"⟩ := ⟨Or.inl (tb_at 1222 (by decide +kernel) (by decide +kernel)), tb_at 1223 (by decide +kernel) (by decide +kernel)⟩
theorem vl_LW_130 : VLinkO "ParishBoardsLaw" 130 "ParishBoardsModel" ⟨"ParishBoardsModel", "write", "(III)I"⟩ := ⟨Or.inl (tb_at 2078 (by decide +kernel) (by decide +kernel)), tb_at 2079 (by decide +kernel) (by decide +kernel), tb_at 2080 (by decide +kernel) (by decide +kernel)⟩
theorem sl_LW_131 : SLinkO "ParishBoardsLaw" 131 ⟨"ParishBoardsLaw", "note", "(LParishBoards;III[J)I"⟩ := ⟨Or.inl (tb_at 1253 (by decide +kernel) (by decide +kernel)), tb_at 1254 (by decide +kernel) (by decide +kernel)⟩
theorem vl_LW_133 : VLinkO "ParishBoardsLaw" 133 "ParishBoardsModel" ⟨"ParishBoardsModel", "note", "(III)I"⟩ := ⟨Or.inl (tb_at 2095 (by decide +kernel) (by decide +kernel)), tb_at 2096 (by decide +kernel) (by decide +kernel), tb_at 2097 (by decide +kernel) (by decide +kernel)⟩
theorem sl_LW_134 : SLinkO "ParishBoardsLaw" 134 ⟨"ParishBoardsLaw", "merge", "(LParishBoards;III[J)I"⟩ := ⟨Or.inl (tb_at 1289 (by decide +kernel) (by decide +kernel)), tb_at 1290 (by decide +kernel) (by decide +kernel)⟩
theorem vl_LW_136 : VLinkO "ParishBoardsLaw" 136 "ParishBoardsModel" ⟨"ParishBoardsModel", "merge", "(III)I"⟩ := ⟨Or.inl (tb_at 2109 (by decide +kernel) (by decide +kernel)), tb_at 2110 (by decide +kernel) (by decide +kernel), tb_at 2111 (by decide +kernel) (by decide +kernel)⟩
theorem sl_LW_137 : SLinkO "ParishBoardsLaw" 137 ⟨"ParishBoardsLaw", "send", "(LParishBoards;I[J)I"⟩ := ⟨Or.inl (tb_at 1312 (by decide +kernel) (by decide +kernel)), tb_at 1313 (by decide +kernel) (by decide +kernel)⟩
theorem vl_LW_139 : VLinkO "ParishBoardsLaw" 139 "ParishBoardsModel" ⟨"ParishBoardsModel", "send", "(I)I"⟩ := ⟨Or.inl (tb_at 2117 (by decide +kernel) (by decide +kernel)), tb_at 2118 (by decide +kernel) (by decide +kernel), tb_at 2119 (by decide +kernel) (by decide +kernel)⟩
theorem sl_LW_140 : SLinkO "ParishBoardsLaw" 140 ⟨"ParishBoardsLaw", "setDays", "(LParishBoards;II[J)I"⟩ := ⟨Or.inl (tb_at 1324 (by decide +kernel) (by decide +kernel)), tb_at 1325 (by decide +kernel) (by decide +kernel)⟩
theorem vl_LW_142 : VLinkO "ParishBoardsLaw" 142 "ParishBoardsModel" ⟨"ParishBoardsModel", "setDays", "(II)I"⟩ := ⟨Or.inl (tb_at 2126 (by decide +kernel) (by decide +kernel)), tb_at 2127 (by decide +kernel) (by decide +kernel), tb_at 2128 (by decide +kernel) (by decide +kernel)⟩
theorem sl_LW_143 : SLinkO "ParishBoardsLaw" 143 ⟨"ParishBoardsLaw", "pass", "(LParishBoards;I[J)I"⟩ := ⟨Or.inl (tb_at 1332 (by decide +kernel) (by decide +kernel)), tb_at 1333 (by decide +kernel) (by decide +kernel)⟩
theorem vl_LW_145 : VLinkO "ParishBoardsLaw" 145 "ParishBoardsModel" ⟨"ParishBoardsModel", "pass", "(I)I"⟩ := ⟨Or.inl (tb_at 2130 (by decide +kernel) (by decide +kernel)), tb_at 2131 (by decide +kernel) (by decide +kernel), tb_at 2132 (by decide +kernel) (by decide +kernel)⟩
theorem sl_LW_146 : SLinkO "ParishBoardsLaw" 146 ⟨"ParishBoardsLaw", "foresee", "(LParishBoards;II[J)I"⟩ := ⟨Or.inl (tb_at 1413 (by decide +kernel) (by decide +kernel)), tb_at 1414 (by decide +kernel) (by decide +kernel)⟩
theorem vl_LW_148 : VLinkO "ParishBoardsLaw" 148 "ParishBoardsModel" ⟨"ParishBoardsModel", "foresee", "(II)I"⟩ := ⟨Or.inl (tb_at 2189 (by decide +kernel) (by decide +kernel)), tb_at 2190 (by decide +kernel) (by decide +kernel), tb_at 2191 (by decide +kernel) (by decide +kernel)⟩
theorem sl_LW_149 : SLinkO "ParishBoardsLaw" 149 ⟨"ParishBoardsLaw", "until", "(LParishBoards;II[J)I"⟩ := ⟨Or.inl (tb_at 1435 (by decide +kernel) (by decide +kernel)), tb_at 1436 (by decide +kernel) (by decide +kernel)⟩
theorem vl_LW_151 : VLinkO "ParishBoardsLaw" 151 "ParishBoardsModel" ⟨"ParishBoardsModel", "until", "(II)I"⟩ := ⟨Or.inl (tb_at 2201 (by decide +kernel) (by decide +kernel)), tb_at 2202 (by decide +kernel) (by decide +kernel), tb_at 2203 (by decide +kernel) (by decide +kernel)⟩
theorem vl_LW_152 : VLinkO "ParishBoardsLaw" 152 "ParishBoards" ⟨"ParishBoards", "alike", "()Z"⟩ := ⟨Or.inl (tb_at 898 (by decide +kernel) (by decide +kernel)), tb_at 899 (by decide +kernel) (by decide +kernel), tb_at 900 (by decide +kernel) (by decide +kernel)⟩
theorem vl_LW_156 : VLinkO "ParishBoardsLaw" 156 "ParishBoardsModel" ⟨"ParishBoardsModel", "alike", "()Z"⟩ := ⟨Or.inl (tb_at 2206 (by decide +kernel) (by decide +kernel)), tb_at 2207 (by decide +kernel) (by decide +kernel), tb_at 2208 (by decide +kernel) (by decide +kernel)⟩
theorem vl_LW_157 : VLinkO "ParishBoardsLaw" 157 "ParishBoards" ⟨"ParishBoards", "missed", "()I"⟩ := ⟨Or.inl (tb_at 906 (by decide +kernel) (by decide +kernel)), tb_at 907 (by decide +kernel) (by decide +kernel), tb_at 908 (by decide +kernel) (by decide +kernel)⟩
theorem vl_LW_160 : VLinkO "ParishBoardsLaw" 160 "ParishBoardsModel" ⟨"ParishBoardsModel", "missed", "()I"⟩ := ⟨Or.inl (tb_at 2210 (by decide +kernel) (by decide +kernel)), tb_at 2211 (by decide +kernel) (by decide +kernel), tb_at 2212 (by decide +kernel) (by decide +kernel)⟩
theorem sl_LW_161 : SLinkO "ParishBoardsLaw" 161 ⟨"ParishBoardsLaw", "advise", "(LParishBoards;I[J)I"⟩ := ⟨Or.inl (tb_at 1444 (by decide +kernel) (by decide +kernel)), tb_at 1445 (by decide +kernel) (by decide +kernel)⟩
theorem vl_LW_163 : VLinkO "ParishBoardsLaw" 163 "ParishBoardsModel" ⟨"ParishBoardsModel", "advise", "(I)I"⟩ := ⟨Or.inl (tb_at 2214 (by decide +kernel) (by decide +kernel)), tb_at 2215 (by decide +kernel) (by decide +kernel), tb_at 2216 (by decide +kernel) (by decide +kernel)⟩
theorem vl_LW_164 : VLinkO "ParishBoardsLaw" 164 "ParishBoards" ⟨"ParishBoards", "mean", "()D"⟩ := ⟨Or.inl (tb_at 922 (by decide +kernel) (by decide +kernel)), tb_at 923 (by decide +kernel) (by decide +kernel), tb_at 924 (by decide +kernel) (by decide +kernel)⟩
theorem vl_LW_168 : VLinkO "ParishBoardsLaw" 168 "ParishBoardsModel" ⟨"ParishBoardsModel", "mean", "()D"⟩ := ⟨Or.inl (tb_at 2223 (by decide +kernel) (by decide +kernel)), tb_at 2224 (by decide +kernel) (by decide +kernel), tb_at 2225 (by decide +kernel) (by decide +kernel)⟩
theorem vl_LW_169 : VLinkO "ParishBoardsLaw" 169 "ParishBoards" ⟨"ParishBoards", "digest", "()J"⟩ := ⟨Or.inl (tb_at 934 (by decide +kernel) (by decide +kernel)), tb_at 935 (by decide +kernel) (by decide +kernel), tb_at 936 (by decide +kernel) (by decide +kernel)⟩
theorem vl_LW_173 : VLinkO "ParishBoardsLaw" 173 "ParishBoardsModel" ⟨"ParishBoardsModel", "digest", "()J"⟩ := ⟨Or.inl (tb_at 2227 (by decide +kernel) (by decide +kernel)), tb_at 2228 (by decide +kernel) (by decide +kernel), tb_at 2229 (by decide +kernel) (by decide +kernel)⟩
theorem ol_MM_1 : Cond.methodLink "ParishBoardsModel" 1 Lib.objectInit ∈ tb := tb_at 1456 (by decide +kernel) (by decide +kernel)
theorem il_MM_34 : ILinkO "ParishBoardsModel" 34 ⟨"ParishBoardsModel$Plan", "<init>", "()V"⟩ := ⟨Or.inr ⟨"ParishBoardsModel", tb_at 1459 (by decide +kernel) (by decide +kernel)⟩, tb_at 1460 (by decide +kernel) (by decide +kernel), rfl⟩
theorem il_MM_44 : ILinkO "ParishBoardsModel" 44 ⟨"ParishBoardsModel$State", "<init>", "(LParishBoardsModel;)V"⟩ := ⟨Or.inr ⟨"ParishBoardsModel", tb_at 1549 (by decide +kernel) (by decide +kernel)⟩, tb_at 1550 (by decide +kernel) (by decide +kernel), rfl⟩
theorem vl_MM_54 : VLinkO "ParishBoardsModel" 54 "ParishBoardsModel$State" ⟨"ParishBoardsModel$State", "begin", "()V"⟩ := ⟨Or.inl (tb_at 1638 (by decide +kernel) (by decide +kernel)), tb_at 1639 (by decide +kernel) (by decide +kernel), tb_at 1640 (by decide +kernel) (by decide +kernel)⟩
theorem sl_MM_63 : SLinkO "ParishBoardsModel" 63 ⟨"ParishBoardsModel", "isIn", "(III)Z"⟩ := ⟨Or.inl (tb_at 1710 (by decide +kernel) (by decide +kernel)), tb_at 1711 (by decide +kernel) (by decide +kernel)⟩
theorem vl_MM_67 : VLinkO "ParishBoardsModel" 67 "ParishBoardsModel" ⟨"ParishBoardsModel", "isParish", "(I)Z"⟩ := ⟨Or.inl (tb_at 1987 (by decide +kernel) (by decide +kernel)), tb_at 1989 (by decide +kernel) (by decide +kernel), tb_at 102 (by decide +kernel) (by decide +kernel)⟩
theorem sl_MM_80 : SLinkO "ParishBoardsModel" 80 ⟨"java/lang/Math", "min", "(II)I"⟩ := ⟨Or.inl (tb_at 1831 (by decide +kernel) (by decide +kernel)), tb_at 1307 (by decide +kernel) (by decide +kernel)⟩
theorem sl_MM_86 : SLinkO "ParishBoardsModel" 86 ⟨"java/lang/Math", "max", "(II)I"⟩ := ⟨Or.inl (tb_at 2158 (by decide +kernel) (by decide +kernel)), tb_at 1310 (by decide +kernel) (by decide +kernel)⟩
theorem vl_MM_92 : VLinkO "ParishBoardsModel" 92 "ParishBoardsModel" ⟨"ParishBoardsModel", "byteOf", "(I)I"⟩ := ⟨Or.inl (tb_at 1725 (by decide +kernel) (by decide +kernel)), tb_at 1727 (by decide +kernel) (by decide +kernel), tb_at 62 (by decide +kernel) (by decide +kernel)⟩
theorem sl_MM_96 : SLinkO "ParishBoardsModel" 96 ⟨"ParishBoardsModel", "isLetter", "(I)Z"⟩ := ⟨Or.inl (tb_at 1733 (by decide +kernel) (by decide +kernel)), tb_at 1734 (by decide +kernel) (by decide +kernel)⟩
theorem sl_MM_99 : SLinkO "ParishBoardsModel" 99 ⟨"ParishBoardsModel", "isDigit", "(I)Z"⟩ := ⟨Or.inl (tb_at 1736 (by decide +kernel) (by decide +kernel)), tb_at 1737 (by decide +kernel) (by decide +kernel)⟩
theorem vl_MM_102 : VLinkO "ParishBoardsModel" 102 "ParishBoardsModel" ⟨"ParishBoardsModel", "word", "(II)I"⟩ := ⟨Or.inl (tb_at 1739 (by decide +kernel) (by decide +kernel)), tb_at 1741 (by decide +kernel) (by decide +kernel), tb_at 64 (by decide +kernel) (by decide +kernel)⟩
theorem vl_MM_107 : VLinkO "ParishBoardsModel" 107 "java/lang/String" ⟨"java/lang/String", "indexOf", "(I)I"⟩ := ⟨Or.inl (tb_at 1748 (by decide +kernel) (by decide +kernel)), tb_at 1749 (by decide +kernel) (by decide +kernel), tb_at 1750 (by decide +kernel) (by decide +kernel)⟩
theorem vl_MM_116 : VLinkO "ParishBoardsModel" 116 "java/lang/String" ⟨"java/lang/String", "length", "()I"⟩ := ⟨Or.inl (tb_at 1745 (by decide +kernel) (by decide +kernel)), tb_at 580 (by decide +kernel) (by decide +kernel), tb_at 581 (by decide +kernel) (by decide +kernel)⟩
theorem vl_MM_120 : VLinkO "ParishBoardsModel" 120 "java/lang/String" ⟨"java/lang/String", "charAt", "(I)C"⟩ := ⟨Or.inl (tb_at 1746 (by decide +kernel) (by decide +kernel)), tb_at 594 (by decide +kernel) (by decide +kernel), tb_at 595 (by decide +kernel) (by decide +kernel)⟩
theorem vl_MM_124 : VLinkO "ParishBoardsModel" 124 "ParishBoardsModel" ⟨"ParishBoardsModel", "kindAt", "(II)I"⟩ := ⟨Or.inl (tb_at 1729 (by decide +kernel) (by decide +kernel)), tb_at 1731 (by decide +kernel) (by decide +kernel), tb_at 63 (by decide +kernel) (by decide +kernel)⟩
theorem vl_MM_130 : VLinkO "ParishBoardsModel" 130 "ParishBoardsModel" ⟨"ParishBoardsModel", "is", "(I)Z"⟩ := ⟨Or.inl (tb_at 1807 (by decide +kernel) (by decide +kernel)), tb_at 1809 (by decide +kernel) (by decide +kernel), tb_at 66 (by decide +kernel) (by decide +kernel)⟩
theorem vl_MM_133 : VLinkO "ParishBoardsModel" 133 "ParishBoardsModel" ⟨"ParishBoardsModel", "eat", "(I)Z"⟩ := ⟨Or.inl (tb_at 1819 (by decide +kernel) (by decide +kernel)), tb_at 1821 (by decide +kernel) (by decide +kernel), tb_at 69 (by decide +kernel) (by decide +kernel)⟩
theorem vl_MM_140 : VLinkO "ParishBoardsModel" 140 "ParishBoardsModel" ⟨"ParishBoardsModel", "isNew", "(I)Z"⟩ := ⟨Or.inl (tb_at 1811 (by decide +kernel) (by decide +kernel)), tb_at 1813 (by decide +kernel) (by decide +kernel), tb_at 67 (by decide +kernel) (by decide +kernel)⟩
theorem vl_MM_143 : VLinkO "ParishBoardsModel" 143 "ParishBoardsModel" ⟨"ParishBoardsModel", "isRoadLine", "()Z"⟩ := ⟨Or.inl (tb_at 1823 (by decide +kernel) (by decide +kernel)), tb_at 1825 (by decide +kernel) (by decide +kernel), tb_at 70 (by decide +kernel) (by decide +kernel)⟩
theorem vl_MM_147 : VLinkO "ParishBoardsModel" 147 "ParishBoardsModel" ⟨"ParishBoardsModel", "isOrderLine", "()Z"⟩ := ⟨Or.inl (tb_at 1827 (by decide +kernel) (by decide +kernel)), tb_at 1829 (by decide +kernel) (by decide +kernel), tb_at 71 (by decide +kernel) (by decide +kernel)⟩
theorem vl_MM_150 : VLinkO "ParishBoardsModel" 150 "ParishBoardsModel" ⟨"ParishBoardsModel", "eatSign", "(C)Z"⟩ := ⟨Or.inl (tb_at 1872 (by decide +kernel) (by decide +kernel)), tb_at 1874 (by decide +kernel) (by decide +kernel), tb_at 82 (by decide +kernel) (by decide +kernel)⟩
theorem vl_MM_154 : VLinkO "ParishBoardsModel" 154 "ParishBoardsModel" ⟨"ParishBoardsModel", "eatAs", "(II)Z"⟩ := ⟨Or.inl (tb_at 1815 (by decide +kernel) (by decide +kernel)), tb_at 1817 (by decide +kernel) (by decide +kernel), tb_at 68 (by decide +kernel) (by decide +kernel)⟩
theorem vl_MM_164 : VLinkO "ParishBoardsModel" 164 "ParishBoardsModel" ⟨"ParishBoardsModel", "isSum", "()Z"⟩ := ⟨Or.inl (tb_at 1832 (by decide +kernel) (by decide +kernel)), tb_at 1834 (by decide +kernel) (by decide +kernel), tb_at 72 (by decide +kernel) (by decide +kernel)⟩
theorem vl_MM_167 : VLinkO "ParishBoardsModel" 167 "ParishBoardsModel" ⟨"ParishBoardsModel", "isWay", "()Z"⟩ := ⟨Or.inl (tb_at 1876 (by decide +kernel) (by decide +kernel)), tb_at 1878 (by decide +kernel) (by decide +kernel), tb_at 83 (by decide +kernel) (by decide +kernel)⟩
theorem vl_MM_176 : VLinkO "ParishBoardsModel" 176 "ParishBoardsModel" ⟨"ParishBoardsModel", "isTest", "()Z"⟩ := ⟨Or.inl (tb_at 1880 (by decide +kernel) (by decide +kernel)), tb_at 1882 (by decide +kernel) (by decide +kernel), tb_at 84 (by decide +kernel) (by decide +kernel)⟩
theorem vl_MM_179 : VLinkO "ParishBoardsModel" 179 "ParishBoardsModel" ⟨"ParishBoardsModel", "isBoth", "()Z"⟩ := ⟨Or.inl (tb_at 1884 (by decide +kernel) (by decide +kernel)), tb_at 1886 (by decide +kernel) (by decide +kernel), tb_at 85 (by decide +kernel) (by decide +kernel)⟩
theorem vl_MM_182 : VLinkO "ParishBoardsModel" 182 "ParishBoardsModel" ⟨"ParishBoardsModel", "put", "(I)V"⟩ := ⟨Or.inl (tb_at 1844 (by decide +kernel) (by decide +kernel)), tb_at 1846 (by decide +kernel) (by decide +kernel), tb_at 75 (by decide +kernel) (by decide +kernel)⟩
theorem vl_MM_186 : VLinkO "ParishBoardsModel" 186 "ParishBoardsModel" ⟨"ParishBoardsModel", "isSingle", "()Z"⟩ := ⟨Or.inl (tb_at 1888 (by decide +kernel) (by decide +kernel)), tb_at 1890 (by decide +kernel) (by decide +kernel), tb_at 86 (by decide +kernel) (by decide +kernel)⟩
theorem vl_MM_198 : VLinkO "ParishBoardsModel" 198 "ParishBoardsModel" ⟨"ParishBoardsModel", "isName", "(I)Z"⟩ := ⟨Or.inl (tb_at 1856 (by decide +kernel) (by decide +kernel)), tb_at 1858 (by decide +kernel) (by decide +kernel), tb_at 78 (by decide +kernel) (by decide +kernel)⟩
theorem vl_MM_201 : VLinkO "ParishBoardsModel" 201 "ParishBoardsModel" ⟨"ParishBoardsModel", "isDeeper", "()Z"⟩ := ⟨Or.inl (tb_at 1864 (by decide +kernel) (by decide +kernel)), tb_at 1866 (by decide +kernel) (by decide +kernel), tb_at 80 (by decide +kernel) (by decide +kernel)⟩
theorem vl_MM_204 : VLinkO "ParishBoardsModel" 204 "ParishBoardsModel" ⟨"ParishBoardsModel", "isSign", "(C)Z"⟩ := ⟨Or.inl (tb_at 1860 (by decide +kernel) (by decide +kernel)), tb_at 1862 (by decide +kernel) (by decide +kernel), tb_at 79 (by decide +kernel) (by decide +kernel)⟩
theorem vl_MM_207 : VLinkO "ParishBoardsModel" 207 "ParishBoardsModel" ⟨"ParishBoardsModel", "isNamed", "(I)Z"⟩ := ⟨Or.inl (tb_at 1852 (by decide +kernel) (by decide +kernel)), tb_at 1854 (by decide +kernel) (by decide +kernel), tb_at 77 (by decide +kernel) (by decide +kernel)⟩
theorem vl_MM_210 : VLinkO "ParishBoardsModel" 210 "ParishBoardsModel" ⟨"ParishBoardsModel", "isProduct", "()Z"⟩ := ⟨Or.inl (tb_at 1836 (by decide +kernel) (by decide +kernel)), tb_at 1838 (by decide +kernel) (by decide +kernel), tb_at 73 (by decide +kernel) (by decide +kernel)⟩
theorem vl_MM_213 : VLinkO "ParishBoardsModel" 213 "ParishBoardsModel" ⟨"ParishBoardsModel", "isValue", "()Z"⟩ := ⟨Or.inl (tb_at 1840 (by decide +kernel) (by decide +kernel)), tb_at 1842 (by decide +kernel) (by decide +kernel), tb_at 74 (by decide +kernel) (by decide +kernel)⟩
theorem vl_MM_216 : VLinkO "ParishBoardsModel" 216 "ParishBoardsModel" ⟨"ParishBoardsModel", "numberAt", "(I)I"⟩ := ⟨Or.inl (tb_at 1848 (by decide +kernel) (by decide +kernel)), tb_at 1850 (by decide +kernel) (by decide +kernel), tb_at 76 (by decide +kernel) (by decide +kernel)⟩
theorem vl_MM_219 : VLinkO "ParishBoardsModel" 219 "ParishBoardsModel" ⟨"ParishBoardsModel", "isInside", "(IZ)Z"⟩ := ⟨Or.inl (tb_at 1868 (by decide +kernel) (by decide +kernel)), tb_at 1870 (by decide +kernel) (by decide +kernel), tb_at 81 (by decide +kernel) (by decide +kernel)⟩
theorem vl_MM_223 : VLinkO "ParishBoardsModel" 223 "ParishBoardsModel" ⟨"ParishBoardsModel", "isSame", "(II)Z"⟩ := ⟨Or.inl (tb_at 1908 (by decide +kernel) (by decide +kernel)), tb_at 1910 (by decide +kernel) (by decide +kernel), tb_at 91 (by decide +kernel) (by decide +kernel)⟩
theorem vl_MM_226 : VLinkO "ParishBoardsModel" 226 "ParishBoardsModel" ⟨"ParishBoardsModel", "told", "(II)I"⟩ := ⟨Or.inl (tb_at 1904 (by decide +kernel) (by decide +kernel)), tb_at 1906 (by decide +kernel) (by decide +kernel), tb_at 90 (by decide +kernel) (by decide +kernel)⟩
theorem vl_MM_229 : VLinkO "ParishBoardsModel" 229 "ParishBoardsModel" ⟨"ParishBoardsModel", "isNew", "(III)I"⟩ := ⟨Or.inl (tb_at 1900 (by decide +kernel) (by decide +kernel)), tb_at 1902 (by decide +kernel) (by decide +kernel), tb_at 89 (by decide +kernel) (by decide +kernel)⟩
theorem vl_MM_238 : VLinkO "ParishBoardsModel" 238 "ParishBoardsModel" ⟨"ParishBoardsModel", "look", "(II)I"⟩ := ⟨Or.inl (tb_at 1924 (by decide +kernel) (by decide +kernel)), tb_at 1926 (by decide +kernel) (by decide +kernel), tb_at 95 (by decide +kernel) (by decide +kernel)⟩
theorem vl_MM_244 : VLinkO "ParishBoardsModel" 244 "ParishBoardsModel" ⟨"ParishBoardsModel", "named", "(I[III)I"⟩ := ⟨Or.inl (tb_at 1920 (by decide +kernel) (by decide +kernel)), tb_at 1922 (by decide +kernel) (by decide +kernel), tb_at 94 (by decide +kernel) (by decide +kernel)⟩
theorem vl_MM_254 : VLinkO "ParishBoardsModel" 254 "ParishBoardsModel" ⟨"ParishBoardsModel", "inRange", "(III)I"⟩ := ⟨Or.inl (tb_at 1936 (by decide +kernel) (by decide +kernel)), tb_at 1938 (by decide +kernel) (by decide +kernel), tb_at 98 (by decide +kernel) (by decide +kernel)⟩
theorem vl_MM_257 : VLinkO "ParishBoardsModel" 257 "ParishBoardsModel" ⟨"ParishBoardsModel", "newParish", "(I)I"⟩ := ⟨Or.inl (tb_at 1896 (by decide +kernel) (by decide +kernel)), tb_at 1898 (by decide +kernel) (by decide +kernel), tb_at 88 (by decide +kernel) (by decide +kernel)⟩
theorem vl_MM_260 : VLinkO "ParishBoardsModel" 260 "ParishBoardsModel" ⟨"ParishBoardsModel", "newNotice", "(I)I"⟩ := ⟨Or.inl (tb_at 1912 (by decide +kernel) (by decide +kernel)), tb_at 1914 (by decide +kernel) (by decide +kernel), tb_at 92 (by decide +kernel) (by decide +kernel)⟩
theorem vl_MM_263 : VLinkO "ParishBoardsModel" 263 "ParishBoardsModel" ⟨"ParishBoardsModel", "newRoad", "(I)I"⟩ := ⟨Or.inl (tb_at 1916 (by decide +kernel) (by decide +kernel)), tb_at 1918 (by decide +kernel) (by decide +kernel), tb_at 93 (by decide +kernel) (by decide +kernel)⟩
theorem vl_MM_266 : VLinkO "ParishBoardsModel" 266 "ParishBoardsModel" ⟨"ParishBoardsModel", "whither", "(I)I"⟩ := ⟨Or.inl (tb_at 1928 (by decide +kernel) (by decide +kernel)), tb_at 1930 (by decide +kernel) (by decide +kernel), tb_at 96 (by decide +kernel) (by decide +kernel)⟩
theorem vl_MM_268 : VLinkO "ParishBoardsModel" 268 "ParishBoardsModel" ⟨"ParishBoardsModel", "daysOf", "(I)I"⟩ := ⟨Or.inl (tb_at 1932 (by decide +kernel) (by decide +kernel)), tb_at 1934 (by decide +kernel) (by decide +kernel), tb_at 97 (by decide +kernel) (by decide +kernel)⟩
theorem vl_MM_271 : VLinkO "ParishBoardsModel" 271 "ParishBoardsModel" ⟨"ParishBoardsModel", "order", "(I)I"⟩ := ⟨Or.inl (tb_at 1940 (by decide +kernel) (by decide +kernel)), tb_at 1942 (by decide +kernel) (by decide +kernel), tb_at 99 (by decide +kernel) (by decide +kernel)⟩
theorem vl_MM_283 : VLinkO "ParishBoardsModel" 283 "ParishBoardsModel" ⟨"ParishBoardsModel", "cut", "()V"⟩ := ⟨Or.inl (tb_at 1721 (by decide +kernel) (by decide +kernel)), tb_at 1723 (by decide +kernel) (by decide +kernel), tb_at 61 (by decide +kernel) (by decide +kernel)⟩
theorem vl_MM_286 : VLinkO "ParishBoardsModel" 286 "ParishBoardsModel" ⟨"ParishBoardsModel", "isPlan", "()Z"⟩ := ⟨Or.inl (tb_at 1803 (by decide +kernel) (by decide +kernel)), tb_at 1805 (by decide +kernel) (by decide +kernel), tb_at 65 (by decide +kernel) (by decide +kernel)⟩
theorem vl_MM_289 : VLinkO "ParishBoardsModel" 289 "ParishBoardsModel" ⟨"ParishBoardsModel", "errorOf", "(I)I"⟩ := ⟨Or.inl (tb_at 1892 (by decide +kernel) (by decide +kernel)), tb_at 1894 (by decide +kernel) (by decide +kernel), tb_at 87 (by decide +kernel) (by decide +kernel)⟩
theorem vl_MM_292 : VLinkO "ParishBoardsModel" 292 "ParishBoardsModel" ⟨"ParishBoardsModel", "no", "(I)I"⟩ := ⟨Or.inl (tb_at 1702 (by decide +kernel) (by decide +kernel)), tb_at 1704 (by decide +kernel) (by decide +kernel), tb_at 59 (by decide +kernel) (by decide +kernel)⟩
theorem vl_MM_295 : VLinkO "ParishBoardsModel" 295 "ParishBoardsModel" ⟨"ParishBoardsModel", "read", "()I"⟩ := ⟨Or.inl (tb_at 1717 (by decide +kernel) (by decide +kernel)), tb_at 1719 (by decide +kernel) (by decide +kernel), tb_at 60 (by decide +kernel) (by decide +kernel)⟩
theorem vl_MM_298 : VLinkO "ParishBoardsModel" 298 "ParishBoardsModel$State" ⟨"ParishBoardsModel$State", "counted", "(I)I"⟩ := ⟨Or.inl (tb_at 1956 (by decide +kernel) (by decide +kernel)), tb_at 1957 (by decide +kernel) (by decide +kernel), tb_at 1958 (by decide +kernel) (by decide +kernel)⟩
theorem vl_MM_304 : VLinkO "ParishBoardsModel" 304 "ParishBoardsModel" ⟨"ParishBoardsModel", "counted", "(I)I"⟩ := ⟨Or.inl (tb_at 1952 (by decide +kernel) (by decide +kernel)), tb_at 1954 (by decide +kernel) (by decide +kernel), tb_at 100 (by decide +kernel) (by decide +kernel)⟩
theorem vl_MM_305 : VLinkO "ParishBoardsModel" 305 "ParishBoardsModel$State" ⟨"ParishBoardsModel$State", "known", "(I)I"⟩ := ⟨Or.inl (tb_at 1995 (by decide +kernel) (by decide +kernel)), tb_at 1996 (by decide +kernel) (by decide +kernel), tb_at 1997 (by decide +kernel) (by decide +kernel)⟩
theorem vl_MM_308 : VLinkO "ParishBoardsModel" 308 "ParishBoardsModel$State" ⟨"ParishBoardsModel$State", "waits", "(I)I"⟩ := ⟨Or.inl (tb_at 2003 (by decide +kernel) (by decide +kernel)), tb_at 1968 (by decide +kernel) (by decide +kernel), tb_at 1969 (by decide +kernel) (by decide +kernel)⟩
theorem vl_MM_311 : VLinkO "ParishBoardsModel" 311 "ParishBoardsModel$State" ⟨"ParishBoardsModel$State", "noticesOf", "(II)I"⟩ := ⟨Or.inl (tb_at 2004 (by decide +kernel) (by decide +kernel)), tb_at 1972 (by decide +kernel) (by decide +kernel), tb_at 1973 (by decide +kernel) (by decide +kernel)⟩
theorem vl_MM_314 : VLinkO "ParishBoardsModel" 314 "ParishBoardsModel$State" ⟨"ParishBoardsModel$State", "numberOf", "(II)I"⟩ := ⟨Or.inr ⟨"ParishBoardsModel", tb_at 2005 (by decide +kernel) (by decide +kernel)⟩, tb_at 2001 (by decide +kernel) (by decide +kernel), tb_at 104 (by decide +kernel) (by decide +kernel)⟩
theorem vl_MM_317 : VLinkO "ParishBoardsModel" 317 "ParishBoardsModel" ⟨"ParishBoardsModel", "roadsFrom", "(I)I"⟩ := ⟨Or.inl (tb_at 2006 (by decide +kernel) (by decide +kernel)), tb_at 2008 (by decide +kernel) (by decide +kernel), tb_at 105 (by decide +kernel) (by decide +kernel)⟩
theorem vl_MM_320 : VLinkO "ParishBoardsModel" 320 "ParishBoardsModel" ⟨"ParishBoardsModel", "parishTold", "(II)I"⟩ := ⟨Or.inl (tb_at 1991 (by decide +kernel) (by decide +kernel)), tb_at 1993 (by decide +kernel) (by decide +kernel), tb_at 103 (by decide +kernel) (by decide +kernel)⟩
theorem vl_MM_332 : VLinkO "ParishBoardsModel" 332 "ParishBoardsModel$State" ⟨"ParishBoardsModel$State", "spot", "(III)I"⟩ := ⟨Or.inr ⟨"ParishBoardsModel", tb_at 2030 (by decide +kernel) (by decide +kernel)⟩, tb_at 1981 (by decide +kernel) (by decide +kernel), tb_at 101 (by decide +kernel) (by decide +kernel)⟩
theorem vl_MM_335 : VLinkO "ParishBoardsModel" 335 "ParishBoardsModel$State" ⟨"ParishBoardsModel$State", "knows", "(II)Z"⟩ := ⟨Or.inl (tb_at 2031 (by decide +kernel) (by decide +kernel)), tb_at 2032 (by decide +kernel) (by decide +kernel), tb_at 2033 (by decide +kernel) (by decide +kernel)⟩
theorem vl_MM_350 : VLinkO "ParishBoardsModel" 350 "ParishBoardsModel" ⟨"ParishBoardsModel", "boards", "(IZ)I"⟩ := ⟨Or.inl (tb_at 2026 (by decide +kernel) (by decide +kernel)), tb_at 2028 (by decide +kernel) (by decide +kernel), tb_at 108 (by decide +kernel) (by decide +kernel)⟩
theorem vl_MM_354 : VLinkO "ParishBoardsModel" 354 "ParishBoardsModel" ⟨"ParishBoardsModel", "isSheet", "(I)Z"⟩ := ⟨Or.inl (tb_at 2018 (by decide +kernel) (by decide +kernel)), tb_at 2020 (by decide +kernel) (by decide +kernel), tb_at 106 (by decide +kernel) (by decide +kernel)⟩
theorem vl_MM_357 : VLinkO "ParishBoardsModel" 357 "ParishBoardsModel" ⟨"ParishBoardsModel", "sheetTold", "(II)I"⟩ := ⟨Or.inl (tb_at 2022 (by decide +kernel) (by decide +kernel)), tb_at 2024 (by decide +kernel) (by decide +kernel), tb_at 107 (by decide +kernel) (by decide +kernel)⟩
theorem vl_MM_360 : VLinkO "ParishBoardsModel" 360 "ParishBoardsModel$State" ⟨"ParishBoardsModel$State", "stampOf", "(II)I"⟩ := ⟨Or.inr ⟨"ParishBoardsModel", tb_at 2043 (by decide +kernel) (by decide +kernel)⟩, tb_at 2037 (by decide +kernel) (by decide +kernel), tb_at 109 (by decide +kernel) (by decide +kernel)⟩
theorem vl_MM_363 : VLinkO "ParishBoardsModel" 363 "ParishBoardsModel" ⟨"ParishBoardsModel", "isNotice", "(II)Z"⟩ := ⟨Or.inl (tb_at 2048 (by decide +kernel) (by decide +kernel)), tb_at 2050 (by decide +kernel) (by decide +kernel), tb_at 110 (by decide +kernel) (by decide +kernel)⟩
theorem vl_MM_366 : VLinkO "ParishBoardsModel" 366 "ParishBoardsModel$State" ⟨"ParishBoardsModel$State", "shows", "(II)I"⟩ := ⟨Or.inl (tb_at 2052 (by decide +kernel) (by decide +kernel)), tb_at 1976 (by decide +kernel) (by decide +kernel), tb_at 1977 (by decide +kernel) (by decide +kernel)⟩
theorem vl_MM_369 : VLinkO "ParishBoardsModel" 369 "ParishBoardsModel$State" ⟨"ParishBoardsModel$State", "shown", "(III)I"⟩ := ⟨Or.inl (tb_at 2053 (by decide +kernel) (by decide +kernel)), tb_at 2054 (by decide +kernel) (by decide +kernel), tb_at 2055 (by decide +kernel) (by decide +kernel)⟩
theorem vl_MM_372 : VLinkO "ParishBoardsModel" 372 "ParishBoardsModel$State" ⟨"ParishBoardsModel$State", "isAhead", "(II)Z"⟩ := ⟨Or.inl (tb_at 2061 (by decide +kernel) (by decide +kernel)), tb_at 2062 (by decide +kernel) (by decide +kernel), tb_at 2063 (by decide +kernel) (by decide +kernel)⟩
theorem vl_MM_376 : VLinkO "ParishBoardsModel" 376 "ParishBoardsModel$State" ⟨"ParishBoardsModel$State", "underWay", "(I)I"⟩ := ⟨Or.inl (tb_at 2077 (by decide +kernel) (by decide +kernel)), tb_at 1961 (by decide +kernel) (by decide +kernel), tb_at 1962 (by decide +kernel) (by decide +kernel)⟩
theorem vl_MM_382 : VLinkO "ParishBoardsModel" 382 "ParishBoardsModel" ⟨"ParishBoardsModel", "isRoad", "(I)Z"⟩ := ⟨Or.inl (tb_at 2069 (by decide +kernel) (by decide +kernel)), tb_at 2071 (by decide +kernel) (by decide +kernel), tb_at 111 (by decide +kernel) (by decide +kernel)⟩
theorem vl_MM_385 : VLinkO "ParishBoardsModel" 385 "ParishBoardsModel" ⟨"ParishBoardsModel", "roadTold", "(II)I"⟩ := ⟨Or.inl (tb_at 2073 (by decide +kernel) (by decide +kernel)), tb_at 2075 (by decide +kernel) (by decide +kernel), tb_at 112 (by decide +kernel) (by decide +kernel)⟩
theorem vl_MM_388 : VLinkO "ParishBoardsModel" 388 "ParishBoardsModel$State" ⟨"ParishBoardsModel$State", "write", "(III)I"⟩ := ⟨Or.inl (tb_at 2082 (by decide +kernel) (by decide +kernel)), tb_at 2083 (by decide +kernel) (by decide +kernel), tb_at 2084 (by decide +kernel) (by decide +kernel)⟩
theorem vl_MM_391 : VLinkO "ParishBoardsModel" 391 "ParishBoardsModel$State" ⟨"ParishBoardsModel$State", "note", "(III)I"⟩ := ⟨Or.inl (tb_at 2099 (by decide +kernel) (by decide +kernel)), tb_at 2100 (by decide +kernel) (by decide +kernel), tb_at 2101 (by decide +kernel) (by decide +kernel)⟩
theorem vl_MM_394 : VLinkO "ParishBoardsModel" 394 "ParishBoardsModel$State" ⟨"ParishBoardsModel$State", "merge", "(III)I"⟩ := ⟨Or.inl (tb_at 2113 (by decide +kernel) (by decide +kernel)), tb_at 2114 (by decide +kernel) (by decide +kernel), tb_at 2115 (by decide +kernel) (by decide +kernel)⟩
theorem vl_MM_397 : VLinkO "ParishBoardsModel" 397 "ParishBoardsModel$State" ⟨"ParishBoardsModel$State", "send", "(I)I"⟩ := ⟨Or.inl (tb_at 2121 (by decide +kernel) (by decide +kernel)), tb_at 2122 (by decide +kernel) (by decide +kernel), tb_at 2123 (by decide +kernel) (by decide +kernel)⟩
theorem vl_MM_403 : VLinkO "ParishBoardsModel" 403 "ParishBoardsModel$State" ⟨"ParishBoardsModel$State", "pass", "(I)LParishBoardsModel$State;"⟩ := ⟨Or.inl (tb_at 2134 (by decide +kernel) (by decide +kernel)), tb_at 2135 (by decide +kernel) (by decide +kernel), tb_at 2136 (by decide +kernel) (by decide +kernel)⟩
theorem vl_MM_407 : VLinkO "ParishBoardsModel" 407 "ParishBoardsModel$State" ⟨"ParishBoardsModel$State", "become", "(LParishBoardsModel$State;)LParishBoardsModel$State;"⟩ := ⟨Or.inl (tb_at 2193 (by decide +kernel) (by decide +kernel)), tb_at 2194 (by decide +kernel) (by decide +kernel), tb_at 2195 (by decide +kernel) (by decide +kernel)⟩
theorem vl_MM_411 : VLinkO "ParishBoardsModel" 411 "ParishBoardsModel$State" ⟨"ParishBoardsModel$State", "pass", "()V"⟩ := ⟨Or.inl (tb_at 2205 (by decide +kernel) (by decide +kernel)), tb_at 2139 (by decide +kernel) (by decide +kernel), tb_at 2140 (by decide +kernel) (by decide +kernel)⟩
theorem vl_MM_413 : VLinkO "ParishBoardsModel" 413 "ParishBoardsModel$State" ⟨"ParishBoardsModel$State", "allKnown", "()I"⟩ := ⟨Or.inl (tb_at 2218 (by decide +kernel) (by decide +kernel)), tb_at 2219 (by decide +kernel) (by decide +kernel), tb_at 2220 (by decide +kernel) (by decide +kernel)⟩
theorem ol_MP_3 : Cond.methodLink "ParishBoardsModel$Plan" 3 Lib.objectInit ∈ tb := tb_at 1462 (by decide +kernel) (by decide +kernel)
theorem ol_MS_9 : Cond.methodLink "ParishBoardsModel$State" 9 Lib.objectInit ∈ tb := tb_at 1552 (by decide +kernel) (by decide +kernel)
theorem ml_MS_68 : Cond.methodLink "ParishBoardsModel$State" 68 arraycopyName ∈ tb := tb_at 1646 (by decide +kernel) (by decide +kernel)
theorem vl_MS_93 : VLinkO "ParishBoardsModel$State" 93 "ParishBoardsModel$State" ⟨"ParishBoardsModel$State", "copy", "([I[I)V"⟩ := ⟨Or.inl (tb_at 1642 (by decide +kernel) (by decide +kernel)), tb_at 1644 (by decide +kernel) (by decide +kernel), tb_at 58 (by decide +kernel) (by decide +kernel)⟩
theorem vl_MS_97 : VLinkO "ParishBoardsModel$State" 97 "ParishBoardsModel$State" ⟨"ParishBoardsModel$State", "copy", "([J[J)V"⟩ := ⟨Or.inl (tb_at 2197 (by decide +kernel) (by decide +kernel)), tb_at 2199 (by decide +kernel) (by decide +kernel), tb_at 122 (by decide +kernel) (by decide +kernel)⟩
theorem vl_MS_107 : VLinkO "ParishBoardsModel$State" 107 "ParishBoardsModel$State" ⟨"ParishBoardsModel$State", "stampOf", "(II)I"⟩ := ⟨Or.inl (tb_at 2035 (by decide +kernel) (by decide +kernel)), tb_at 2037 (by decide +kernel) (by decide +kernel), tb_at 109 (by decide +kernel) (by decide +kernel)⟩
theorem vl_MS_111 : VLinkO "ParishBoardsModel$State" 111 "ParishBoardsModel$State" ⟨"ParishBoardsModel$State", "numberOf", "(II)I"⟩ := ⟨Or.inl (tb_at 1999 (by decide +kernel) (by decide +kernel)), tb_at 2001 (by decide +kernel) (by decide +kernel), tb_at 104 (by decide +kernel) (by decide +kernel)⟩
theorem vl_MS_117 : VLinkO "ParishBoardsModel$State" 117 "ParishBoardsModel$State" ⟨"ParishBoardsModel$State", "spot", "(III)I"⟩ := ⟨Or.inl (tb_at 1979 (by decide +kernel) (by decide +kernel)), tb_at 1981 (by decide +kernel) (by decide +kernel), tb_at 101 (by decide +kernel) (by decide +kernel)⟩
theorem vl_MS_121 : VLinkO "ParishBoardsModel$State" 121 "ParishBoardsModel$State" ⟨"ParishBoardsModel$State", "shows", "(II)I"⟩ := ⟨Or.inl (tb_at 1975 (by decide +kernel) (by decide +kernel)), tb_at 1976 (by decide +kernel) (by decide +kernel), tb_at 1977 (by decide +kernel) (by decide +kernel)⟩
theorem vl_MS_124 : VLinkO "ParishBoardsModel$State" 124 "ParishBoardsModel$State" ⟨"ParishBoardsModel$State", "shown", "(III)I"⟩ := ⟨Or.inl (tb_at 2090 (by decide +kernel) (by decide +kernel)), tb_at 2054 (by decide +kernel) (by decide +kernel), tb_at 2055 (by decide +kernel) (by decide +kernel)⟩
theorem sl_MS_127 : SLinkO "ParishBoardsModel$State" 127 ⟨"ParishBoardsModel", "bits", "(J)I"⟩ := ⟨Or.inr ⟨"ParishBoardsModel", tb_at 1964 (by decide +kernel) (by decide +kernel)⟩, tb_at 1965 (by decide +kernel) (by decide +kernel)⟩
theorem sl_MS_131 : SLinkO "ParishBoardsModel$State" 131 ⟨"java/lang/Math", "min", "(II)I"⟩ := ⟨Or.inl (tb_at 2107 (by decide +kernel) (by decide +kernel)), tb_at 1307 (by decide +kernel) (by decide +kernel)⟩
theorem sl_MS_136 : SLinkO "ParishBoardsModel$State" 136 ⟨"java/lang/Math", "max", "(II)I"⟩ := ⟨Or.inl (tb_at 2108 (by decide +kernel) (by decide +kernel)), tb_at 1310 (by decide +kernel) (by decide +kernel)⟩
theorem vl_MS_139 : VLinkO "ParishBoardsModel$State" 139 "ParishBoardsModel$State" ⟨"ParishBoardsModel$State", "valueOf", "(III)I"⟩ := ⟨Or.inl (tb_at 2103 (by decide +kernel) (by decide +kernel)), tb_at 2104 (by decide +kernel) (by decide +kernel), tb_at 2105 (by decide +kernel) (by decide +kernel)⟩
theorem vl_MS_142 : VLinkO "ParishBoardsModel$State" 142 "ParishBoardsModel$State" ⟨"ParishBoardsModel$State", "marksOf", "(II)I"⟩ := ⟨Or.inl (tb_at 2086 (by decide +kernel) (by decide +kernel)), tb_at 2087 (by decide +kernel) (by decide +kernel), tb_at 2088 (by decide +kernel) (by decide +kernel)⟩
theorem vl_MS_145 : VLinkO "ParishBoardsModel$State" 145 "ParishBoardsModel$State" ⟨"ParishBoardsModel$State", "make", "(IIIII)I"⟩ := ⟨Or.inl (tb_at 2091 (by decide +kernel) (by decide +kernel)), tb_at 2092 (by decide +kernel) (by decide +kernel), tb_at 2093 (by decide +kernel) (by decide +kernel)⟩
theorem vl_MS_152 : VLinkO "ParishBoardsModel$State" 152 "ParishBoardsModel$State" ⟨"ParishBoardsModel$State", "knows", "(II)Z"⟩ := ⟨Or.inl (tb_at 2125 (by decide +kernel) (by decide +kernel)), tb_at 2032 (by decide +kernel) (by decide +kernel), tb_at 2033 (by decide +kernel) (by decide +kernel)⟩
theorem vl_MS_159 : VLinkO "ParishBoardsModel$State" 159 "ParishBoardsModel$State" ⟨"ParishBoardsModel$State", "come", "(IJ)V"⟩ := ⟨Or.inl (tb_at 2171 (by decide +kernel) (by decide +kernel)), tb_at 2173 (by decide +kernel) (by decide +kernel), tb_at 118 (by decide +kernel) (by decide +kernel)⟩
theorem vl_MS_163 : VLinkO "ParishBoardsModel$State" 163 "ParishBoardsModel$State" ⟨"ParishBoardsModel$State", "canHang", "(II)Z"⟩ := ⟨Or.inl (tb_at 2179 (by decide +kernel) (by decide +kernel)), tb_at 2181 (by decide +kernel) (by decide +kernel), tb_at 120 (by decide +kernel) (by decide +kernel)⟩
theorem vl_MS_168 : VLinkO "ParishBoardsModel$State" 168 "ParishBoardsModel$State" ⟨"ParishBoardsModel$State", "isAhead", "(II)Z"⟩ := ⟨Or.inl (tb_at 2188 (by decide +kernel) (by decide +kernel)), tb_at 2062 (by decide +kernel) (by decide +kernel), tb_at 2063 (by decide +kernel) (by decide +kernel)⟩
theorem vl_MS_180 : VLinkO "ParishBoardsModel$State" 180 "ParishBoardsModel$State" ⟨"ParishBoardsModel$State", "send", "(I)I"⟩ := ⟨Or.inl (tb_at 2163 (by decide +kernel) (by decide +kernel)), tb_at 2122 (by decide +kernel) (by decide +kernel), tb_at 2123 (by decide +kernel) (by decide +kernel)⟩
theorem vl_MS_190 : VLinkO "ParishBoardsModel$State" 190 "ParishBoardsModel$State" ⟨"ParishBoardsModel$State", "carryOut", "(II)I"⟩ := ⟨Or.inl (tb_at 2146 (by decide +kernel) (by decide +kernel)), tb_at 2148 (by decide +kernel) (by decide +kernel), tb_at 114 (by decide +kernel) (by decide +kernel)⟩
theorem vl_MS_196 : VLinkO "ParishBoardsModel$State" 196 "ParishBoardsModel$State" ⟨"ParishBoardsModel$State", "merge", "(III)I"⟩ := ⟨Or.inl (tb_at 2164 (by decide +kernel) (by decide +kernel)), tb_at 2114 (by decide +kernel) (by decide +kernel), tb_at 2115 (by decide +kernel) (by decide +kernel)⟩
theorem vl_MS_199 : VLinkO "ParishBoardsModel$State" 199 "ParishBoardsModel$State" ⟨"ParishBoardsModel$State", "write", "(III)I"⟩ := ⟨Or.inl (tb_at 2165 (by decide +kernel) (by decide +kernel)), tb_at 2083 (by decide +kernel) (by decide +kernel), tb_at 2084 (by decide +kernel) (by decide +kernel)⟩
theorem sl_MS_202 : SLinkO "ParishBoardsModel$State" 202 ⟨"ParishBoardsModel", "isIn", "(III)Z"⟩ := ⟨Or.inr ⟨"ParishBoardsModel", tb_at 2150 (by decide +kernel) (by decide +kernel)⟩, tb_at 1711 (by decide +kernel) (by decide +kernel)⟩
theorem vl_MS_206 : VLinkO "ParishBoardsModel$State" 206 "ParishBoardsModel$State" ⟨"ParishBoardsModel$State", "note", "(III)I"⟩ := ⟨Or.inl (tb_at 2166 (by decide +kernel) (by decide +kernel)), tb_at 2100 (by decide +kernel) (by decide +kernel), tb_at 2101 (by decide +kernel) (by decide +kernel)⟩
theorem vl_MS_215 : VLinkO "ParishBoardsModel$State" 215 "ParishBoardsModel$State" ⟨"ParishBoardsModel$State", "holds", "(I)Z"⟩ := ⟨Or.inl (tb_at 2142 (by decide +kernel) (by decide +kernel)), tb_at 2144 (by decide +kernel) (by decide +kernel), tb_at 113 (by decide +kernel) (by decide +kernel)⟩
theorem vl_MS_219 : VLinkO "ParishBoardsModel$State" 219 "ParishBoardsModel$State" ⟨"ParishBoardsModel$State", "order", "(I)Z"⟩ := ⟨Or.inl (tb_at 2159 (by decide +kernel) (by decide +kernel)), tb_at 2161 (by decide +kernel) (by decide +kernel), tb_at 116 (by decide +kernel) (by decide +kernel)⟩
theorem vl_MS_222 : VLinkO "ParishBoardsModel$State" 222 "ParishBoardsModel$State" ⟨"ParishBoardsModel$State", "arrive", "()V"⟩ := ⟨Or.inl (tb_at 2167 (by decide +kernel) (by decide +kernel)), tb_at 2169 (by decide +kernel) (by decide +kernel), tb_at 117 (by decide +kernel) (by decide +kernel)⟩
theorem vl_MS_225 : VLinkO "ParishBoardsModel$State" 225 "ParishBoardsModel$State" ⟨"ParishBoardsModel$State", "next", "(I)I"⟩ := ⟨Or.inl (tb_at 2175 (by decide +kernel) (by decide +kernel)), tb_at 2177 (by decide +kernel) (by decide +kernel), tb_at 119 (by decide +kernel) (by decide +kernel)⟩
theorem vl_MS_228 : VLinkO "ParishBoardsModel$State" 228 "ParishBoardsModel$State" ⟨"ParishBoardsModel$State", "hang", "(II)V"⟩ := ⟨Or.inl (tb_at 2183 (by decide +kernel) (by decide +kernel)), tb_at 2185 (by decide +kernel) (by decide +kernel), tb_at 121 (by decide +kernel) (by decide +kernel)⟩
theorem vl_MS_232 : VLinkO "ParishBoardsModel$State" 232 "ParishBoardsModel$State" ⟨"ParishBoardsModel$State", "pass", "()V"⟩ := ⟨Or.inl (tb_at 2138 (by decide +kernel) (by decide +kernel)), tb_at 2139 (by decide +kernel) (by decide +kernel), tb_at 2140 (by decide +kernel) (by decide +kernel)⟩
theorem vl_MS_235 : VLinkO "ParishBoardsModel$State" 235 "ParishBoardsModel$State" ⟨"ParishBoardsModel$State", "known", "(I)I"⟩ := ⟨Or.inl (tb_at 2222 (by decide +kernel) (by decide +kernel)), tb_at 1996 (by decide +kernel) (by decide +kernel), tb_at 1997 (by decide +kernel) (by decide +kernel)⟩
theorem vl_MS_241 : VLinkO "ParishBoardsModel$State" 241 "ParishBoardsModel$State" ⟨"ParishBoardsModel$State", "underWay", "(I)I"⟩ := ⟨Or.inl (tb_at 1960 (by decide +kernel) (by decide +kernel)), tb_at 1961 (by decide +kernel) (by decide +kernel), tb_at 1962 (by decide +kernel) (by decide +kernel)⟩
theorem vl_MS_244 : VLinkO "ParishBoardsModel$State" 244 "ParishBoardsModel$State" ⟨"ParishBoardsModel$State", "waits", "(I)I"⟩ := ⟨Or.inl (tb_at 1967 (by decide +kernel) (by decide +kernel)), tb_at 1968 (by decide +kernel) (by decide +kernel), tb_at 1969 (by decide +kernel) (by decide +kernel)⟩
theorem vl_MS_247 : VLinkO "ParishBoardsModel$State" 247 "ParishBoardsModel$State" ⟨"ParishBoardsModel$State", "noticesOf", "(II)I"⟩ := ⟨Or.inl (tb_at 1971 (by decide +kernel) (by decide +kernel)), tb_at 1972 (by decide +kernel) (by decide +kernel), tb_at 1973 (by decide +kernel) (by decide +kernel)⟩
theorem vl_MS_253 : VLinkO "ParishBoardsModel$State" 253 "ParishBoardsModel$State" ⟨"ParishBoardsModel$State", "pushed", "(III)I"⟩ := ⟨Or.inl (tb_at 2151 (by decide +kernel) (by decide +kernel)), tb_at 2153 (by decide +kernel) (by decide +kernel), tb_at 115 (by decide +kernel) (by decide +kernel)⟩
theorem sl_MS_256 : SLinkO "ParishBoardsModel$State" 256 ⟨"ParishBoardsModel", "both", "(III)I"⟩ := ⟨Or.inr ⟨"ParishBoardsModel", tb_at 2155 (by decide +kernel) (by decide +kernel)⟩, tb_at 2156 (by decide +kernel) (by decide +kernel)⟩
theorem vl_Str_335 : VLinkO "java/lang/String" 335 "java/lang/String" ⟨"java/lang/String", "coder", "()B"⟩ := ⟨Or.inl (tb_at 583 (by decide +kernel) (by decide +kernel)), tb_at 584 (by decide +kernel) (by decide +kernel), tb_at 585 (by decide +kernel) (by decide +kernel)⟩
theorem vl_Str_492 : VLinkO "java/lang/String" 492 "java/lang/String" ⟨"java/lang/String", "isLatin1", "()Z"⟩ := ⟨Or.inl (tb_at 597 (by decide +kernel) (by decide +kernel)), tb_at 598 (by decide +kernel) (by decide +kernel), tb_at 599 (by decide +kernel) (by decide +kernel)⟩
theorem sl_Str_495 : SLinkO "java/lang/String" 495 ⟨"java/lang/StringLatin1", "charAt", "([BI)C"⟩ := ⟨Or.inl (tb_at 601 (by decide +kernel) (by decide +kernel)), tb_at 602 (by decide +kernel) (by decide +kernel)⟩
theorem sl_Str_498 : SLinkO "java/lang/String" 498 ⟨"java/lang/StringUTF16", "charAt", "([BI)C"⟩ := ⟨Or.inl (tb_at 612 (by decide +kernel) (by decide +kernel)), tb_at 613 (by decide +kernel) (by decide +kernel)⟩
theorem vl_Str_505 : VLinkO "java/lang/String" 505 "java/lang/String" ⟨"java/lang/String", "length", "()I"⟩ := ⟨Or.inl (tb_at 1756 (by decide +kernel) (by decide +kernel)), tb_at 580 (by decide +kernel) (by decide +kernel), tb_at 581 (by decide +kernel) (by decide +kernel)⟩
theorem vl_Str_633 : VLinkO "java/lang/String" 633 "java/lang/String" ⟨"java/lang/String", "indexOf", "(II)I"⟩ := ⟨Or.inl (tb_at 1752 (by decide +kernel) (by decide +kernel)), tb_at 1753 (by decide +kernel) (by decide +kernel), tb_at 1754 (by decide +kernel) (by decide +kernel)⟩
theorem sl_Str_637 : SLinkO "java/lang/String" 637 ⟨"java/lang/StringLatin1", "indexOf", "([BIII)I"⟩ := ⟨Or.inl (tb_at 1757 (by decide +kernel) (by decide +kernel)), tb_at 1758 (by decide +kernel) (by decide +kernel)⟩
theorem sl_Str_640 : SLinkO "java/lang/String" 640 ⟨"java/lang/StringUTF16", "indexOf", "([BIII)I"⟩ := ⟨Or.inl (tb_at 1768 (by decide +kernel) (by decide +kernel)), tb_at 1769 (by decide +kernel) (by decide +kernel)⟩
theorem sl_Str_1059 : SLinkO "java/lang/String" 1059 ⟨"jdk/internal/util/Preconditions", "checkIndex", "(IILjava/util/function/BiFunction;)I"⟩ := ⟨Or.inl (tb_at 609 (by decide +kernel) (by decide +kernel)), tb_at 610 (by decide +kernel) (by decide +kernel)⟩
theorem sl_Str_1062 : SLinkO "java/lang/String" 1062 ⟨"jdk/internal/util/Preconditions", "checkFromToIndex", "(IIILjava/util/function/BiFunction;)I"⟩ := ⟨Or.inl (tb_at 1783 (by decide +kernel) (by decide +kernel)), tb_at 1784 (by decide +kernel) (by decide +kernel)⟩
theorem sl_SL_9 : SLinkO "java/lang/StringLatin1" 9 ⟨"java/lang/String", "checkIndex", "(II)V"⟩ := ⟨Or.inl (tb_at 604 (by decide +kernel) (by decide +kernel)), tb_at 605 (by decide +kernel) (by decide +kernel)⟩
theorem sl_SL_38 : SLinkO "java/lang/StringLatin1" 38 ⟨"java/lang/Math", "min", "(II)I"⟩ := ⟨Or.inl (tb_at 1764 (by decide +kernel) (by decide +kernel)), tb_at 1307 (by decide +kernel) (by decide +kernel)⟩
theorem sl_SL_88 : SLinkO "java/lang/StringLatin1" 88 ⟨"java/lang/StringLatin1", "canEncode", "(I)Z"⟩ := ⟨Or.inl (tb_at 1760 (by decide +kernel) (by decide +kernel)), tb_at 1761 (by decide +kernel) (by decide +kernel)⟩
theorem sl_SL_92 : SLinkO "java/lang/StringLatin1" 92 ⟨"java/lang/Math", "max", "(II)I"⟩ := ⟨Or.inl (tb_at 1763 (by decide +kernel) (by decide +kernel)), tb_at 1310 (by decide +kernel) (by decide +kernel)⟩
theorem sl_SL_95 : SLinkO "java/lang/StringLatin1" 95 ⟨"java/lang/StringLatin1", "indexOfChar", "([BIII)I"⟩ := ⟨Or.inl (tb_at 1765 (by decide +kernel) (by decide +kernel)), tb_at 1766 (by decide +kernel) (by decide +kernel)⟩
theorem ul_Cd_53 : ULinkO "ParishBoards$Code" 53 "ParishBoards$Kind" ⟨"ParishBoards$Kind", "ordinal", "()I"⟩ "java/lang/Enum" ⟨"java/lang/Enum", "ordinal", "()I"⟩ := ⟨tb_at 1356 (by decide +kernel) (by decide +kernel), tb_at 669 (by decide +kernel) (by decide +kernel), tb_at 671 (by decide +kernel) (by decide +kernel), tb_at 672 (by decide +kernel) (by decide +kernel), rfl, by decide +kernel, by decide +kernel⟩
theorem ul_Gr_57 : ULinkO "ParishBoards$Grammar" 57 "ParishBoards$Kind" ⟨"ParishBoards$Kind", "ordinal", "()I"⟩ "java/lang/Enum" ⟨"java/lang/Enum", "ordinal", "()I"⟩ := ⟨tb_at 668 (by decide +kernel) (by decide +kernel), tb_at 669 (by decide +kernel) (by decide +kernel), tb_at 671 (by decide +kernel) (by decide +kernel), tb_at 672 (by decide +kernel) (by decide +kernel), rfl, by decide +kernel, by decide +kernel⟩
theorem ul_Nm_58 : ULinkO "ParishBoards$Names" 58 "ParishBoards$Kind" ⟨"ParishBoards$Kind", "ordinal", "()I"⟩ "java/lang/Enum" ⟨"java/lang/Enum", "ordinal", "()I"⟩ := ⟨tb_at 813 (by decide +kernel) (by decide +kernel), tb_at 669 (by decide +kernel) (by decide +kernel), tb_at 671 (by decide +kernel) (by decide +kernel), tb_at 672 (by decide +kernel) (by decide +kernel), rfl, by decide +kernel, by decide +kernel⟩
theorem ul_Wd_165 : ULinkO "ParishBoards$World" 165 "ParishBoards$Kind" ⟨"ParishBoards$Kind", "ordinal", "()I"⟩ "java/lang/Enum" ⟨"java/lang/Enum", "ordinal", "()I"⟩ := ⟨tb_at 1281 (by decide +kernel) (by decide +kernel), tb_at 669 (by decide +kernel) (by decide +kernel), tb_at 671 (by decide +kernel) (by decide +kernel), tb_at 672 (by decide +kernel) (by decide +kernel), rfl, by decide +kernel, by decide +kernel⟩
theorem cl_PB_20 : Cond.classLink "ParishBoards" 20 "ParishBoards$Plan" ∈ tb := tb_at 163 (by decide +kernel) (by decide +kernel)
theorem cl_PB_30 : Cond.classLink "ParishBoards" 30 "ParishBoards$Tokens" ∈ tb := tb_at 317 (by decide +kernel) (by decide +kernel)
theorem cl_PB_37 : Cond.classLink "ParishBoards" 37 "ParishBoards$Grammar" ∈ tb := tb_at 350 (by decide +kernel) (by decide +kernel)
theorem cl_PB_46 : Cond.classLink "ParishBoards" 46 "ParishBoards$Names" ∈ tb := tb_at 371 (by decide +kernel) (by decide +kernel)
theorem cl_PB_53 : Cond.classLink "ParishBoards" 53 "ParishBoards$World" ∈ tb := tb_at 403 (by decide +kernel) (by decide +kernel)
theorem cl_PB_65 : Cond.classLink "ParishBoards" 65 "java/lang/IllegalStateException" ∈ tb := tb_at 1026 (by decide +kernel) (by decide +kernel)
theorem cl_PB_76 : Cond.classLink "ParishBoards" 76 "java/lang/IllegalArgumentException" ∈ tb := tb_at 1105 (by decide +kernel) (by decide +kernel)
theorem cl_PB_105 : Cond.classLink "ParishBoards" 105 "java/lang/IndexOutOfBoundsException" ∈ tb := tb_at 1129 (by decide +kernel) (by decide +kernel)
theorem cl_Cd_9 : Cond.classLink "ParishBoards$Code" 9 "ParishBoards$Kind" ∈ tb := tb_at 175 (by decide +kernel) (by decide +kernel)
theorem cl_Pl_9 : Cond.classLink "ParishBoards$Plan" 9 "ParishBoards$Code" ∈ tb := tb_at 169 (by decide +kernel) (by decide +kernel)
theorem cl_Pl_18 : Cond.classLink "ParishBoards$Plan" 18 "ParishBoards$Road" ∈ tb := tb_at 200 (by decide +kernel) (by decide +kernel)
theorem cl_Pl_24 : Cond.classLink "ParishBoards$Plan" 24 "ParishBoards$Order" ∈ tb := tb_at 202 (by decide +kernel) (by decide +kernel)
theorem cl_Tk_9 : Cond.classLink "ParishBoards$Tokens" 9 "ParishBoards$Kind" ∈ tb := tb_at 323 (by decide +kernel) (by decide +kernel)
theorem cl_Wd_9 : Cond.classLink "ParishBoards$World" 9 "ParishBoards$Sheet" ∈ tb := tb_at 409 (by decide +kernel) (by decide +kernel)
theorem cl_Wd_17 : Cond.classLink "ParishBoards$World" 17 "ParishBoards$Board" ∈ tb := tb_at 411 (by decide +kernel) (by decide +kernel)
theorem cl_Wd_23 : Cond.classLink "ParishBoards$World" 23 "ParishBoards$Road" ∈ tb := tb_at 413 (by decide +kernel) (by decide +kernel)
theorem cl_LW_8 : Cond.classLink "ParishBoardsLaw" 8 "ParishBoards" ∈ tb := tb_at 155 (by decide +kernel) (by decide +kernel)
theorem cl_LW_13 : Cond.classLink "ParishBoardsLaw" 13 "java/lang/IllegalStateException" ∈ tb := tb_at 1021 (by decide +kernel) (by decide +kernel)
theorem cl_LW_19 : Cond.classLink "ParishBoardsLaw" 19 "java/lang/IllegalArgumentException" ∈ tb := tb_at 1100 (by decide +kernel) (by decide +kernel)
theorem cl_LW_24 : Cond.classLink "ParishBoardsLaw" 24 "java/lang/IndexOutOfBoundsException" ∈ tb := tb_at 1124 (by decide +kernel) (by decide +kernel)
theorem cl_LW_77 : Cond.classLink "ParishBoardsLaw" 77 "ParishBoardsModel" ∈ tb := tb_at 1451 (by decide +kernel) (by decide +kernel)
theorem cl_MM_32 : Cond.classLink "ParishBoardsModel" 32 "ParishBoardsModel$Plan" ∈ tb := tb_at 1457 (by decide +kernel) (by decide +kernel)
theorem cl_MM_42 : Cond.classLink "ParishBoardsModel" 42 "ParishBoardsModel$State" ∈ tb := tb_at 1547 (by decide +kernel) (by decide +kernel)
theorem ao_Ki : Cond.arrayOver (.object "ParishBoards$Kind") ∈ tb := tb_at 176 (by decide +kernel) (by decide +kernel)
theorem ac_byte : Cond.arrayClass .byte ∈ tb := tb_at 198 (by decide +kernel) (by decide +kernel)
theorem ac_int : Cond.arrayClass .int ∈ tb := tb_at 199 (by decide +kernel) (by decide +kernel)
theorem ao_Rd : Cond.arrayOver (.object "ParishBoards$Road") ∈ tb := tb_at 201 (by decide +kernel) (by decide +kernel)
theorem ao_Od : Cond.arrayOver (.object "ParishBoards$Order") ∈ tb := tb_at 203 (by decide +kernel) (by decide +kernel)
theorem ac_long : Cond.arrayClass .long ∈ tb := tb_at 349 (by decide +kernel) (by decide +kernel)
theorem ao_Sh : Cond.arrayOver (.object "ParishBoards$Sheet") ∈ tb := tb_at 410 (by decide +kernel) (by decide +kernel)
theorem ao_Bd : Cond.arrayOver (.object "ParishBoards$Board") ∈ tb := tb_at 412 (by decide +kernel) (by decide +kernel)
theorem ac_boolean : Cond.arrayClass .boolean ∈ tb := tb_at 477 (by decide +kernel) (by decide +kernel)
theorem k_Tk_108 : Cond.constantLong "ParishBoards$Tokens" 108 (10) ∈ tb := tb_at 643 (by decide +kernel) (by decide +kernel)
theorem k_Tk_110 : Cond.constantLong "ParishBoards$Tokens" 110 (37) ∈ tb := tb_at 648 (by decide +kernel) (by decide +kernel)
theorem k_Nm_112 : Cond.constantLong "ParishBoards$Names" 112 (9) ∈ tb := tb_at 849 (by decide +kernel) (by decide +kernel)
theorem k_PB_270 : Cond.constantLong "ParishBoards" 270 (929) ∈ tb := tb_at 938 (by decide +kernel) (by decide +kernel)
theorem k_PB_292 : Cond.constantLong "ParishBoards" 292 (31) ∈ tb := tb_at 982 (by decide +kernel) (by decide +kernel)
theorem k_JI_265 : Cond.constant "java/lang/Integer" 265 (1431655765) ∈ tb := tb_at 1286 (by decide +kernel) (by decide +kernel)
theorem k_JI_266 : Cond.constant "java/lang/Integer" 266 (858993459) ∈ tb := tb_at 1287 (by decide +kernel) (by decide +kernel)
theorem k_JI_267 : Cond.constant "java/lang/Integer" 267 (252645135) ∈ tb := tb_at 1288 (by decide +kernel) (by decide +kernel)
theorem k_S16_227 : Cond.constant "java/lang/StringUTF16" 227 (65536) ∈ tb := tb_at 1773 (by decide +kernel) (by decide +kernel)
theorem k_Ch_110 : Cond.constant "java/lang/Character" 110 (55232) ∈ tb := tb_at 1798 (by decide +kernel) (by decide +kernel)
theorem k_Ch_76 : Cond.constant "java/lang/Character" 76 (56320) ∈ tb := tb_at 1802 (by decide +kernel) (by decide +kernel)
theorem k_MS_166 : Cond.constantLong "ParishBoardsModel$State" 166 (-1) ∈ tb := tb_at 2187 (by decide +kernel) (by decide +kernel)
theorem k_MM_416 : Cond.constantLong "ParishBoardsModel" 416 (929) ∈ tb := tb_at 2231 (by decide +kernel) (by decide +kernel)
theorem k_MM_418 : Cond.constantLong "ParishBoardsModel" 418 (31) ∈ tb := tb_at 2232 (by decide +kernel) (by decide +kernel)
theorem ao_Str : Cond.arrayOver (.object "java/lang/String") ∈ tb := tb_at 2312 (by decide +kernel) (by decide +kernel)
theorem oi_1 : Cond.instanceMethod Lib.objectInit ∈ tb := tb_at 161 (by decide +kernel) (by decide +kernel)
theorem oi_2 : Cond.code Lib.objectInit ⟨#[0xb1]⟩ 1 none ∈ tb := tb_at 162 (by decide +kernel) (by decide +kernel)
theorem cp_1 : Cond.native arraycopyName ∈ tb := tb_at 893 (by decide +kernel) (by decide +kernel)
theorem cp_2 : Cond.static arraycopyName ∈ tb := tb_at 892 (by decide +kernel) (by decide +kernel)
theorem cp_3 : Cond.initialized "java/lang/System" ∈ tb := tb_at 140 (by decide +kernel) (by decide +kernel)
