/-! rows of tokens, byte by byte -/
theorem tx45 : txN 45 = [] := by decide +kernel
theorem tx46 : txN 46 = [32, 119, 104, 101, 110, 32, 116, 111, 114, 110, 32, 112] := by decide +kernel
theorem tx47 : txN 47 = [32, 110] := by decide +kernel
theorem tx48 : txN 48 = [32, 119, 104, 101, 110, 32, 110, 111, 116, 32, 107, 110, 111, 119, 110, 32, 112] := by decide +kernel
theorem tx49 : txN 49 = [32, 111, 114, 32, 100, 97, 121, 45, 100, 97, 121, 47, 53, 42, 53, 61, 48] := by decide +kernel
theorem tx50 : txN 50 = [32, 119, 104, 101, 110, 32, 100, 97, 121, 45, 100, 97, 121, 47] := by decide +kernel
theorem tx51 : txN 51 = [42] := by decide +kernel
theorem tx52 : txN 52 = [61] := by decide +kernel
theorem tx53 : txN 53 = [32, 119, 104, 101, 110, 32, 119, 97, 105, 116, 115, 32, 112] := by decide +kernel
theorem tx54 : txN 54 = [62] := by decide +kernel
theorem tx55 : txN 55 = [32, 111, 114, 32, 115, 104, 101, 101, 116, 115, 32, 112] := by decide +kernel
theorem tx56 : txN 56 = [32, 110, 48, 62, 61, 50] := by decide +kernel
theorem tx57 : txN 57 = [32, 119, 104, 101, 110, 32, 109, 97, 114, 107, 115, 32, 112] := by decide +kernel
theorem tx58 : txN 58 = [60, 51, 32, 97, 110, 100, 32, 110, 111, 116, 32, 116, 111, 114, 110, 32, 112] := by decide +kernel
theorem tx59 : txN 59 = [100, 97, 121, 42, 55, 45] := by decide +kernel
theorem tx60 : txN 60 = [42, 51, 42, 115, 104, 101, 101, 116, 115, 32, 112] := by decide +kernel
theorem tx61 : txN 61 = [45, 100, 97, 121] := by decide +kernel
theorem tx62 : txN 62 = [112, 97, 114, 105, 115, 104, 32, 112] := by decide +kernel
theorem tx63 : txN 63 = [59] := by decide +kernel
theorem tx64 : txN 64 = [110, 111, 116, 105, 99, 101, 32, 110] := by decide +kernel
theorem tx65 : txN 65 = [114, 111, 97, 100, 32, 114] := by decide +kernel
theorem tx66 : txN 66 = [32, 102, 114, 111, 109, 32, 112] := by decide +kernel
theorem tx67 : txN 67 = [32, 116, 111, 32, 112] := by decide +kernel
theorem tx68 : txN 68 = [32, 100, 97, 121, 115, 32] := by decide +kernel
theorem tx69 : txN 69 = [59, 10] := by decide +kernel
theorem tx70 : txN 70 = [32, 112] := by decide +kernel
theorem tx74 : txN 74 = [115, 101, 110, 100, 32, 114] := by decide +kernel
theorem tx75 : txN 75 = [109, 101, 114, 103, 101] := by decide +kernel
theorem tx76 : txN 76 = [32, 98, 121, 32] := by decide +kernel
theorem tx77 : txN 77 = [119, 114, 105, 116, 101] := by decide +kernel
theorem tx78 : txN 78 = [32, 97, 115, 32] := by decide +kernel
theorem tx79 : txN 79 = [110, 111, 116, 101] := by decide +kernel
theorem tx80 : txN 80 = [32, 119, 105, 116, 104, 32] := by decide +kernel
theorem tk0 : tbK 0 0 = [112, 97, 114, 105, 115, 104] := by decide +kernel
theorem tk1 : tbK 1 0 = [114, 111, 97, 100] := by decide +kernel
theorem tk2 : tbK 2 0 = [102, 114, 111, 109] := by decide +kernel
theorem tk3 : tbK 3 0 = [116, 111] := by decide +kernel
theorem tk4 : tbK 4 0 = [100, 97, 121, 115] := by decide +kernel
theorem tk5 : tbK 5 0 = [110, 111, 116, 105, 99, 101] := by decide +kernel
theorem tk6 : tbK 6 0 = [119, 114, 105, 116, 101] := by decide +kernel
theorem tk7 : tbK 7 0 = [110, 111, 116, 101] := by decide +kernel
theorem tk8 : tbK 8 0 = [109, 101, 114, 103, 101] := by decide +kernel
theorem tk9 : tbK 9 0 = [115, 101, 110, 100] := by decide +kernel
theorem tk10 : tbK 10 0 = [97, 115] := by decide +kernel
theorem tk11 : tbK 11 0 = [119, 105, 116, 104] := by decide +kernel
theorem tk12 : tbK 12 0 = [98, 121] := by decide +kernel
theorem tk16 : tbK 16 0 = [119, 104, 101, 110] := by decide +kernel
theorem tk17 : tbK 17 0 = [100, 97, 121] := by decide +kernel
theorem tk18 : tbK 18 0 = [118, 97, 108, 117, 101] := by decide +kernel
theorem tk19 : tbK 19 0 = [115, 104, 101, 101, 116, 115] := by decide +kernel
theorem tk20 : tbK 20 0 = [109, 97, 114, 107, 115] := by decide +kernel
theorem tk21 : tbK 21 0 = [119, 97, 105, 116, 115] := by decide +kernel
theorem tk22 : tbK 22 0 = [116, 111, 114, 110] := by decide +kernel
theorem tk23 : tbK 23 0 = [107, 110, 111, 119, 110] := by decide +kernel
theorem tk24 : tbK 24 0 = [110, 111, 116] := by decide +kernel
theorem tk25 : tbK 25 0 = [97, 110, 100] := by decide +kernel
theorem tk26 : tbK 26 0 = [111, 114] := by decide +kernel
theorem tk33 : tbK 33 0 = [59] := by decide +kernel
theorem tk36 : tbK 36 0 = [45] := by decide +kernel
theorem tk37 : tbK 37 0 = [42] := by decide +kernel
theorem tk38 : tbK 38 0 = [47] := by decide +kernel
theorem tk39 : tbK 39 0 = [60] := by decide +kernel
theorem tk40 : tbK 40 0 = [62] := by decide +kernel
theorem tk41 : tbK 41 0 = [61] := by decide +kernel
theorem tk43 : tbK 43 0 = [62, 61] := by decide +kernel
theorem nm_B : ∀ v, v < 8 → tbK 44 v = 112 :: dgN v ∧ tbK 44 (10 + v) = 110 :: dgN v ∧ tbK 44 (20 + v) = 114 :: dgN v := by decide +kernel
theorem nu_B : ∀ v, v < 20 → tbK 45 v = dgN v := by decide +kernel
theorem wy_B : ∀ v, v < 3 → tbK (13 + v) 0 = txN (71 + v) := by decide +kernel
theorem d0_B : dgN 0 = [48] ∧ dgN 2 = [50] ∧ dgN 3 = [51] ∧ dgN 5 = [53] ∧ dgN 7 = [55] := by decide +kernel
theorem sep0 : sepB 0 = [] := rfl
theorem sep1 : sepB 1 = [32] := rfl
theorem sep2 : sepB 2 = [10] := rfl
def whB (p n : Nat) : List Nat := ((([] ++ txN 70) ++ dgN p) ++ txN 47) ++ dgN n
def suB (w : Nat → Nat) : List Nat := if w 3 = 0 then ([] ++ txN 45) ++ dgN (w 4) else if w 3 = 1 then ([] ++ txN 59) ++ dgN (w 4) else ((((([] ++ dgN (w 4)) ++ txN 60) ++ dgN (w 1)) ++ txN 47) ++ dgN (w 2)) ++ txN 61
def teB (w : Nat → Nat) : List Nat := if w 5 = 0 then txN 45 else if w 5 = 1 then ((([] ++ txN 46) ++ dgN (w 6)) ++ txN 47) ++ dgN (w 7) else if w 5 = 2 then (((([] ++ txN 48) ++ dgN (w 6)) ++ txN 47) ++ dgN (w 7)) ++ txN 49 else if w 5 = 3 then ((((([] ++ txN 50) ++ dgN (w 6)) ++ txN 51) ++ dgN (w 6)) ++ txN 52) ++ dgN (w 7) else if w 5 = 4 then (((((([] ++ txN 53) ++ dgN (w 6)) ++ txN 54) ++ dgN (w 7)) ++ txN 55) ++ dgN (w 6)) ++ txN 56 else ((((((([] ++ txN 57) ++ dgN (w 6)) ++ txN 47) ++ dgN (w 7)) ++ txN 58) ++ dgN (w 6)) ++ txN 47) ++ dgN (w 7)
def hB (w : Nat → Nat) : List Nat := if w 0 = 3 then ([] ++ txN 74) ++ dgN (w 1) else if w 0 = 2 then ((([] ++ txN 75) ++ whB (w 1) (w 2)) ++ txN 76) ++ txN (71 + w 4) else if w 0 = 0 then ((([] ++ txN 77) ++ whB (w 1) (w 2)) ++ txN 78) ++ suB w else ((([] ++ txN 79) ++ whB (w 1) (w 2)) ++ txN 80) ++ suB w
def paB (a : Nat) : List Nat := (txN 62 ++ dgN a) ++ txN 63
def noB (a : Nat) : List Nat := (txN 64 ++ dgN a) ++ txN 63
def rdB (F G H : Nat → Nat) (r : Nat) : List Nat := ((((((((txN 65 ++ dgN r) ++ txN 66) ++ dgN (F r)) ++ txN 67) ++ dgN (G r)) ++ txN 68) ++ dgN (H r)) ++ txN 69)
section BYT
variable {P N R s r a : Nat} {w F G H : Nat → Nat}
theorem pa_B (h : a < 8) : flT (paT a) = paB a := by
  unfold paT paB
  simp only [(nm_B a h).1, flT, tkB, sep0, sep1, sep2, tx45, tx46, tx47, tx48, tx49, tx50, tx51, tx52, tx53, tx54, tx55, tx56, tx57, tx58, tx59, tx60, tx61, tx62, tx63, tx64, tx65, tx66, tx67, tx68, tx69, tx70, tx74, tx75, tx76, tx77, tx78, tx79, tx80, tk0, tk1, tk2, tk3, tk4, tk5, tk6, tk7, tk8, tk9, tk10, tk11, tk12, tk16, tk17, tk18, tk19, tk20, tk21, tk22, tk23, tk24, tk25, tk26, tk33, tk36, tk37, tk38, tk39, tk40, tk41, tk43, List.cons_append, List.nil_append, List.append_assoc, List.append_nil]
theorem no_B (h : a < 8) : flT (noT a) = noB a := by
  unfold noT noB
  simp only [(nm_B a h).2.1, flT, tkB, sep0, sep1, sep2, tx45, tx46, tx47, tx48, tx49, tx50, tx51, tx52, tx53, tx54, tx55, tx56, tx57, tx58, tx59, tx60, tx61, tx62, tx63, tx64, tx65, tx66, tx67, tx68, tx69, tx70, tx74, tx75, tx76, tx77, tx78, tx79, tx80, tk0, tk1, tk2, tk3, tk4, tk5, tk6, tk7, tk8, tk9, tk10, tk11, tk12, tk16, tk17, tk18, tk19, tk20, tk21, tk22, tk23, tk24, tk25, tk26, tk33, tk36, tk37, tk38, tk39, tk40, tk41, tk43, List.cons_append, List.nil_append, List.append_assoc, List.append_nil]
theorem rd_B (h : r < 8) (hF : F r < 8) (hG : G r < 8) (hH : H r < 20) : flT (rdT F G H r) = rdB F G H r := by
  unfold rdT rdB
  simp only [(nm_B r h).2.2, (nm_B _ hF).1, (nm_B _ hG).1, nu_B _ hH, flT, tkB, sep0, sep1, sep2, tx45, tx46, tx47, tx48, tx49, tx50, tx51, tx52, tx53, tx54, tx55, tx56, tx57, tx58, tx59, tx60, tx61, tx62, tx63, tx64, tx65, tx66, tx67, tx68, tx69, tx70, tx74, tx75, tx76, tx77, tx78, tx79, tx80, tk0, tk1, tk2, tk3, tk4, tk5, tk6, tk7, tk8, tk9, tk10, tk11, tk12, tk16, tk17, tk18, tk19, tk20, tk21, tk22, tk23, tk24, tk25, tk26, tk33, tk36, tk37, tk38, tk39, tk40, tk41, tk43, List.cons_append, List.nil_append, List.append_assoc, List.append_nil]
theorem su_B (h : oB P N R w) (h0 : w 0 ≤ 1) (hP : P ≤ 5) (hN : N ≤ 3) : flT (sumT w s) = suB w ++ sepB s := by
  obtain ⟨h0', h1, h1', h2, h3, h4, -⟩ := h
  have h1'' := h1' (by omega)
  unfold sumT suB
  by_cases y : w 3 = 0
  · rw [if_pos y, if_pos y]
    simp only [nu_B (w 4) (by omega), flT, tkB, sep0, sep1, sep2, tx45, tx46, tx47, tx48, tx49, tx50, tx51, tx52, tx53, tx54, tx55, tx56, tx57, tx58, tx59, tx60, tx61, tx62, tx63, tx64, tx65, tx66, tx67, tx68, tx69, tx70, tx74, tx75, tx76, tx77, tx78, tx79, tx80, tk0, tk1, tk2, tk3, tk4, tk5, tk6, tk7, tk8, tk9, tk10, tk11, tk12, tk16, tk17, tk18, tk19, tk20, tk21, tk22, tk23, tk24, tk25, tk26, tk33, tk36, tk37, tk38, tk39, tk40, tk41, tk43, List.cons_append, List.nil_append, List.append_assoc, List.append_nil]
  · rw [if_neg y, if_neg y]
    by_cases y : w 3 = 1
    · rw [if_pos y, if_pos y]
      simp only [nu_B (w 4) (by omega), nu_B 7 (by decide), d0_B.2.2.2.2, flT, tkB, sep0, sep1, sep2, tx45, tx46, tx47, tx48, tx49, tx50, tx51, tx52, tx53, tx54, tx55, tx56, tx57, tx58, tx59, tx60, tx61, tx62, tx63, tx64, tx65, tx66, tx67, tx68, tx69, tx70, tx74, tx75, tx76, tx77, tx78, tx79, tx80, tk0, tk1, tk2, tk3, tk4, tk5, tk6, tk7, tk8, tk9, tk10, tk11, tk12, tk16, tk17, tk18, tk19, tk20, tk21, tk22, tk23, tk24, tk25, tk26, tk33, tk36, tk37, tk38, tk39, tk40, tk41, tk43, List.cons_append, List.nil_append, List.append_assoc, List.append_nil]
    · rw [if_neg y, if_neg y]
      simp only [nu_B (w 4) (by omega), nu_B 3 (by decide), d0_B.2.2.1, (nm_B (w 1) (by omega)).1, (nm_B (w 2) (by omega)).2.1, flT, tkB, sep0, sep1, sep2, tx45, tx46, tx47, tx48, tx49, tx50, tx51, tx52, tx53, tx54, tx55, tx56, tx57, tx58, tx59, tx60, tx61, tx62, tx63, tx64, tx65, tx66, tx67, tx68, tx69, tx70, tx74, tx75, tx76, tx77, tx78, tx79, tx80, tk0, tk1, tk2, tk3, tk4, tk5, tk6, tk7, tk8, tk9, tk10, tk11, tk12, tk16, tk17, tk18, tk19, tk20, tk21, tk22, tk23, tk24, tk25, tk26, tk33, tk36, tk37, tk38, tk39, tk40, tk41, tk43, List.cons_append, List.nil_append, List.append_assoc, List.append_nil]
theorem hd_B (h : oB P N R w) (hP : P ≤ 5) (hN : N ≤ 3) (hR : R ≤ 8) : flT (hdT w s) = hB w ++ sepB s := by
  have hh := h
  obtain ⟨h0, h1, h1', h2, h3, h4, h24, -⟩ := hh
  unfold hdT hB whB
  by_cases e3 : w 0 = 3
  · rw [if_pos e3, if_pos e3]
    have := h1 e3
    simp only [(nm_B (w 1) (by omega)).2.2, flT, tkB, sep0, sep1, sep2, tx45, tx46, tx47, tx48, tx49, tx50, tx51, tx52, tx53, tx54, tx55, tx56, tx57, tx58, tx59, tx60, tx61, tx62, tx63, tx64, tx65, tx66, tx67, tx68, tx69, tx70, tx74, tx75, tx76, tx77, tx78, tx79, tx80, tk0, tk1, tk2, tk3, tk4, tk5, tk6, tk7, tk8, tk9, tk10, tk11, tk12, tk16, tk17, tk18, tk19, tk20, tk21, tk22, tk23, tk24, tk25, tk26, tk33, tk36, tk37, tk38, tk39, tk40, tk41, tk43, List.cons_append, List.nil_append, List.append_assoc, List.append_nil]
  · rw [if_neg e3, if_neg e3]
    have hp := h1' e3
    by_cases e2 : w 0 = 2
    · rw [if_pos e2, if_pos e2]
      simp only [wy_B (w 4) (h24 e2), (nm_B (w 1) (by omega)).1, (nm_B (w 2) (by omega)).2.1, flT, tkB, sep0, sep1, sep2, tx45, tx46, tx47, tx48, tx49, tx50, tx51, tx52, tx53, tx54, tx55, tx56, tx57, tx58, tx59, tx60, tx61, tx62, tx63, tx64, tx65, tx66, tx67, tx68, tx69, tx70, tx74, tx75, tx76, tx77, tx78, tx79, tx80, tk0, tk1, tk2, tk3, tk4, tk5, tk6, tk7, tk8, tk9, tk10, tk11, tk12, tk16, tk17, tk18, tk19, tk20, tk21, tk22, tk23, tk24, tk25, tk26, tk33, tk36, tk37, tk38, tk39, tk40, tk41, tk43, List.cons_append, List.nil_append, List.append_assoc, List.append_nil]
    · rw [if_neg e2, if_neg e2, flT_app, su_B h (by omega) hP hN]
      rcases (by omega : w 0 = 0 ∨ w 0 = 1) with z | z
      · rw [if_pos z, z]
        show flT [(6, 0, 1), (44, w 1, 1), (44, 10 + w 2, 1), (10, 0, 1)] ++ (suB w ++ sepB s) = _
        simp only [(nm_B (w 1) (by omega)).1, (nm_B (w 2) (by omega)).2.1, flT, tkB, sep0, sep1, sep2, tx45, tx46, tx47, tx48, tx49, tx50, tx51, tx52, tx53, tx54, tx55, tx56, tx57, tx58, tx59, tx60, tx61, tx62, tx63, tx64, tx65, tx66, tx67, tx68, tx69, tx70, tx74, tx75, tx76, tx77, tx78, tx79, tx80, tk0, tk1, tk2, tk3, tk4, tk5, tk6, tk7, tk8, tk9, tk10, tk11, tk12, tk16, tk17, tk18, tk19, tk20, tk21, tk22, tk23, tk24, tk25, tk26, tk33, tk36, tk37, tk38, tk39, tk40, tk41, tk43, List.cons_append, List.nil_append, List.append_assoc, List.append_nil]
      · rw [if_neg (by omega), z]
        show flT [(7, 0, 1), (44, w 1, 1), (44, 10 + w 2, 1), (11, 0, 1)] ++ (suB w ++ sepB s) = _
        simp only [(nm_B (w 1) (by omega)).1, (nm_B (w 2) (by omega)).2.1, flT, tkB, sep0, sep1, sep2, tx45, tx46, tx47, tx48, tx49, tx50, tx51, tx52, tx53, tx54, tx55, tx56, tx57, tx58, tx59, tx60, tx61, tx62, tx63, tx64, tx65, tx66, tx67, tx68, tx69, tx70, tx74, tx75, tx76, tx77, tx78, tx79, tx80, tk0, tk1, tk2, tk3, tk4, tk5, tk6, tk7, tk8, tk9, tk10, tk11, tk12, tk16, tk17, tk18, tk19, tk20, tk21, tk22, tk23, tk24, tk25, tk26, tk33, tk36, tk37, tk38, tk39, tk40, tk41, tk43, List.cons_append, List.nil_append, List.append_assoc, List.append_nil]
theorem ts_B (h : oB P N R w) (hP : P ≤ 5) (hN : N ≤ 3) : sepB (spT w) ++ flT (tsT w) = teB w := by
  obtain ⟨-, -, -, -, -, -, -, h5, -, h68, h78, h6, h7, h8⟩ := h
  unfold tsT teB spT
  by_cases y : w 5 = 0
  · rw [if_pos y, if_pos y, if_pos y]
    simp only [flT, tkB, sep0, sep1, sep2, tx45, tx46, tx47, tx48, tx49, tx50, tx51, tx52, tx53, tx54, tx55, tx56, tx57, tx58, tx59, tx60, tx61, tx62, tx63, tx64, tx65, tx66, tx67, tx68, tx69, tx70, tx74, tx75, tx76, tx77, tx78, tx79, tx80, tk0, tk1, tk2, tk3, tk4, tk5, tk6, tk7, tk8, tk9, tk10, tk11, tk12, tk16, tk17, tk18, tk19, tk20, tk21, tk22, tk23, tk24, tk25, tk26, tk33, tk36, tk37, tk38, tk39, tk40, tk41, tk43, List.cons_append, List.nil_append, List.append_assoc, List.append_nil]
  · rw [if_neg y, if_neg y, if_neg y]
    by_cases z1 : w 5 = 1
    · rw [if_pos z1, if_pos z1]
      have := h6 (Or.inl z1)
      simp only [(nm_B (w 6) (by omega)).1, (nm_B (w 7) (by omega)).2.1, flT, tkB, sep0, sep1, sep2, tx45, tx46, tx47, tx48, tx49, tx50, tx51, tx52, tx53, tx54, tx55, tx56, tx57, tx58, tx59, tx60, tx61, tx62, tx63, tx64, tx65, tx66, tx67, tx68, tx69, tx70, tx74, tx75, tx76, tx77, tx78, tx79, tx80, tk0, tk1, tk2, tk3, tk4, tk5, tk6, tk7, tk8, tk9, tk10, tk11, tk12, tk16, tk17, tk18, tk19, tk20, tk21, tk22, tk23, tk24, tk25, tk26, tk33, tk36, tk37, tk38, tk39, tk40, tk41, tk43, List.cons_append, List.nil_append, List.append_assoc, List.append_nil]
    · rw [if_neg z1, if_neg z1]
      by_cases z2 : w 5 = 2
      · rw [if_pos z2, if_pos z2]
        have := h6 (Or.inr (Or.inl z2))
        simp only [(nm_B (w 6) (by omega)).1, (nm_B (w 7) (by omega)).2.1, nu_B 5 (by decide), nu_B 0 (by decide), d0_B.1, d0_B.2.2.2.1, flT, tkB, sep0, sep1, sep2, tx45, tx46, tx47, tx48, tx49, tx50, tx51, tx52, tx53, tx54, tx55, tx56, tx57, tx58, tx59, tx60, tx61, tx62, tx63, tx64, tx65, tx66, tx67, tx68, tx69, tx70, tx74, tx75, tx76, tx77, tx78, tx79, tx80, tk0, tk1, tk2, tk3, tk4, tk5, tk6, tk7, tk8, tk9, tk10, tk11, tk12, tk16, tk17, tk18, tk19, tk20, tk21, tk22, tk23, tk24, tk25, tk26, tk33, tk36, tk37, tk38, tk39, tk40, tk41, tk43, List.cons_append, List.nil_append, List.append_assoc, List.append_nil]
      · rw [if_neg z2, if_neg z2]
        by_cases z3 : w 5 = 3
        · rw [if_pos z3, if_pos z3]
          simp only [nu_B (w 6) (by omega), nu_B (w 7) (by omega), flT, tkB, sep0, sep1, sep2, tx45, tx46, tx47, tx48, tx49, tx50, tx51, tx52, tx53, tx54, tx55, tx56, tx57, tx58, tx59, tx60, tx61, tx62, tx63, tx64, tx65, tx66, tx67, tx68, tx69, tx70, tx74, tx75, tx76, tx77, tx78, tx79, tx80, tk0, tk1, tk2, tk3, tk4, tk5, tk6, tk7, tk8, tk9, tk10, tk11, tk12, tk16, tk17, tk18, tk19, tk20, tk21, tk22, tk23, tk24, tk25, tk26, tk33, tk36, tk37, tk38, tk39, tk40, tk41, tk43, List.cons_append, List.nil_append, List.append_assoc, List.append_nil]
        · rw [if_neg z3, if_neg z3]
          by_cases z4 : w 5 = 4
          · rw [if_pos z4, if_pos z4]
            have := h8 z4
            have e0 : tbK 44 10 = [110, 48] := by decide +kernel
            simp only [(nm_B (w 6) (by omega)).1, nu_B (w 7) (by omega), e0, nu_B 2 (by decide), d0_B.2.1, flT, tkB, sep0, sep1, sep2, tx45, tx46, tx47, tx48, tx49, tx50, tx51, tx52, tx53, tx54, tx55, tx56, tx57, tx58, tx59, tx60, tx61, tx62, tx63, tx64, tx65, tx66, tx67, tx68, tx69, tx70, tx74, tx75, tx76, tx77, tx78, tx79, tx80, tk0, tk1, tk2, tk3, tk4, tk5, tk6, tk7, tk8, tk9, tk10, tk11, tk12, tk16, tk17, tk18, tk19, tk20, tk21, tk22, tk23, tk24, tk25, tk26, tk33, tk36, tk37, tk38, tk39, tk40, tk41, tk43, List.cons_append, List.nil_append, List.append_assoc, List.append_nil]
          · rw [if_neg z4, if_neg z4]
            have := h6 (Or.inr (Or.inr (by omega)))
            simp only [(nm_B (w 6) (by omega)).1, (nm_B (w 7) (by omega)).2.1, nu_B 3 (by decide), d0_B.2.2.1, flT, tkB, sep0, sep1, sep2, tx45, tx46, tx47, tx48, tx49, tx50, tx51, tx52, tx53, tx54, tx55, tx56, tx57, tx58, tx59, tx60, tx61, tx62, tx63, tx64, tx65, tx66, tx67, tx68, tx69, tx70, tx74, tx75, tx76, tx77, tx78, tx79, tx80, tk0, tk1, tk2, tk3, tk4, tk5, tk6, tk7, tk8, tk9, tk10, tk11, tk12, tk16, tk17, tk18, tk19, tk20, tk21, tk22, tk23, tk24, tk25, tk26, tk33, tk36, tk37, tk38, tk39, tk40, tk41, tk43, List.cons_append, List.nil_append, List.append_assoc, List.append_nil]
theorem or_B (h : oB P N R w) (hP : P ≤ 5) (hN : N ≤ 3) (hR : R ≤ 8) : flT (orT w) = (hB w ++ teB w) ++ txN 69 := by
  unfold orT
  rw [flT_app, flT_app, hd_B h hP hN hR, ← ts_B h hP hN, List.append_assoc, List.append_assoc, List.append_assoc]
  simp only [flT, tkB, sep0, sep1, sep2, tx45, tx46, tx47, tx48, tx49, tx50, tx51, tx52, tx53, tx54, tx55, tx56, tx57, tx58, tx59, tx60, tx61, tx62, tx63, tx64, tx65, tx66, tx67, tx68, tx69, tx70, tx74, tx75, tx76, tx77, tx78, tx79, tx80, tk0, tk1, tk2, tk3, tk4, tk5, tk6, tk7, tk8, tk9, tk10, tk11, tk12, tk16, tk17, tk18, tk19, tk20, tk21, tk22, tk23, tk24, tk25, tk26, tk33, tk36, tk37, tk38, tk39, tk40, tk41, tk43, List.cons_append, List.nil_append, List.append_assoc, List.append_nil]
theorem flT_fl {f : Nat → List TkE} : ∀ n, flT (fl f (n + 1)) = flT (fl f n) ++ flT (f n) := fun n => by rw [fl, flT_app]
end BYT
