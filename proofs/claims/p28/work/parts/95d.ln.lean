/-! the law's checks of what a board shows -/
section LD
variable {d rc rs : Nat} {Q : Option Value → Mu → Prop} {μ μ' : Mu} {T : PT} {D D' E : DT} {C Ct : Nat → List Op} {OO : Nat → Nat → Nat} {t : Nat → Nat} {L c : Nat} {x e : Int32} {a0 a4 : Nat} {x5 x6 x12 x13 x14 : Int32} {x7 : Int64}
theorem sLk_ord (f : Nat → Nat) : ∀ j k a b, a < b → b < (sLk f k j).length → ∃ p q, p < q ∧ k ≤ p ∧ q < k + j ∧ f p = (sLk f k j).getD a 0 ∧ f q = (sLk f k j).getD b 0
  | 0, k, a, b, h1, h2 => by cases h2
  | j + 1, k, a, b, h1, h2 => by
    rw [sLk] at h2 ⊢
    by_cases z : f k = 0
    · rw [if_pos z] at h2 ⊢
      obtain ⟨p, q, w1, w2, w3, w4, w5⟩ := sLk_ord f j (k + 1) a b h1 h2
      exact ⟨p, q, w1, by omega, by omega, w4, w5⟩
    · rw [if_neg z] at h2 ⊢
      obtain ⟨b', rfl⟩ : ∃ b', b = b' + 1 := ⟨b - 1, by omega⟩
      rw [List.length_cons] at h2
      cases a with
      | zero =>
        have hm : (sLk f (k + 1) j).getD b' 0 ∈ sLk f (k + 1) j := getD_mem.mpr ⟨b', by omega, rfl⟩
        obtain ⟨-, q, q1, q2, q3⟩ := sLk_mem _ _ _ _ hm
        exact ⟨k, q, by omega, Nat.le_refl _, by omega, rfl, q3⟩
      | succ a =>
        obtain ⟨p, q, w1, w2, w3, w4, w5⟩ := sLk_ord f j (k + 1) a b' (by omega) (by omega)
        exact ⟨p, q, w1, by omega, by omega, w4, w5⟩
/-- shown sheets stand in the order of their parishes -/
theorem sh_ord (hB : DB T D) {b n i j : Nat} (hb : b < T 0 0) (hn : n < 6) (hij : j < i) (hi : i < (shL D b n).length) : D 4 ((shL D b n).getD j 0 - 1) 0 < D 4 ((shL D b n).getD i 0 - 1) 0 := by
  obtain ⟨p, q, w1, w2, w3, w4, w5⟩ := sLk_ord (fun p => D 7 b (5 * n + p)) 5 0 j i hij hi
  have z1 := (shL_mem hB hb hn (getD_mem.mpr ⟨j, by omega, rfl⟩)).1
  have z2 := (shL_mem hB hb hn (getD_mem.mpr ⟨i, hi, rfl⟩)).1
  have e1 : D 7 b (5 * n + p) = (shL D b n).getD j 0 := w4
  have e2 : D 7 b (5 * n + q) = (shL D b n).getD i 0 := w5
  have h1 := (hB.2.2.1 b hb).2.2.2.2 (5 * n + p) (by omega) (by omega)
  have h2 := (hB.2.2.1 b hb).2.2.2.2 (5 * n + q) (by omega) (by omega)
  rw [e1] at h1
  rw [e2] at h2
  omega
theorem sh_at (hB : DB T D) {b n i : Nat} (hb : b < T 0 0) (hn : n < T 1 0) (hi : i < (shL D b n).length) : (shL D b n).getD i 0 - 1 < D 1 0 0 ∧ pSh D b ((shL D b n).getD i 0 - 1) ∧ D 4 ((shL D b n).getD i 0 - 1) 1 = n := by
  have hN6 := hB.1.2.1
  have hm : (shL D b n).getD i 0 ∈ shL D b n := getD_mem.mpr ⟨i, hi, rfl⟩
  have z := shL_mem hB hb (show n < 6 by omega) hm
  have := (sh_row (k := (shL D b n).getD i 0 - 1) hB hb hn).mp (by rw [show (shL D b n).getD i 0 - 1 + 1 = (shL D b n).getD i 0 by omega]; exact hm)
  exact ⟨z.2, this.1, this.2⟩
theorem cmp_3 (hI : Inv T D) (h2 : Iv T D) {b n i j : Nat} (hb : b < T 0 0) (hn : n < T 1 0) (hij : j < i) (hi : i < (shL D b n).length) : cmpN D ((shL D b n).getD i 0 - 1) ((shL D b n).getD j 0 - 1) = 3 := by
  have hN6 := hI.1.1.2.1
  have ho := sh_ord hI.1 hb (show n < 6 by omega) hij hi
  have a1 := sh_at hI.1 hb hn hi
  have a2 := sh_at hI.1 hb hn (show j < (shL D b n).length by omega)
  have hne : (shL D b n).getD i 0 - 1 ≠ (shL D b n).getD j 0 - 1 := fun z => by rw [z] at ho; omega
  have mu := h2.2.2.1
  unfold cmpN
  rw [if_neg hne, if_neg (fun z => hne (mu b _ _ hb a1.2.1 a2.2.1 (by rw [a1.2.2, a2.2.2]) z)), if_neg (fun z => hne (mu b _ _ hb a2.2.1 a1.2.1 (by rw [a1.2.2, a2.2.2]) z).symm)]
set_option maxRecDepth 100000 in
theorem law_409 {p n a18 : Nat} (hC : CI μ T C Ct D t L e) (hS : St μ) (hI : Inv T D) (h2 : Iv T D) (hD : 9 ≤ d) (hp : p < T 0 0) (hn : n < T 1 0) (hs18 : mS μ a18 = (2, (shL D p n).length)) (hw : RowL μ a18 (shL D p n))
    (kk : Wx K_LW_law d rc rs Q 386 [(0, .ref a0), (2, .ref (hd 100 0)), (3, .ref (hd 8 0)), (4, .ref a4), (5, .int x5), (6, .int x6), (7, .long x7), (9, .int (nI (T 0 0))), (10, .int (nI (D 1 0 0))), (12, .int x12), (13, .int x13), (14, .int x14), (15, .int (nI p)), (17, .int (nI (n + 1)))] [] μ) :
    Wx K_LW_law d rc rs Q 409 [(0, .ref a0), (2, .ref (hd 100 0)), (3, .ref (hd 8 0)), (4, .ref a4), (5, .int x5), (6, .int x6), (7, .long x7), (9, .int (nI (T 0 0))), (10, .int (nI (D 1 0 0))), (12, .int x12), (13, .int x13), (14, .int x14), (15, .int (nI p)), (17, .int (nI n)), (18, .ref a18), (19, .int 0)] [] μ := by
  have hB := hI.1
  have hP5 := hB.1.1
  have hN6 := hB.1.2.1
  have h60 := hB.1.2.2.2.2.1
  have h8 : mS μ (hd 8 0) = (1, 0) := s_8 hS (by decide)
  have hz : ∀ {a b : Nat}, 0 ≤ a ∧ 0 ≤ b := fun {a b} => ⟨Nat.zero_le _, Nat.zero_le _⟩
  have hl5 := shL_len D p n
  have e31 : ∀ i, i < 6 → (nI i).toNatClampNeg = i := fun i hi => nI_clamp (by omega)
  have stb : ∀ k, k < D 1 0 0 → ∀ q, q < 5 → D 5 k q ≤ 60 := fun k hk q hq => by
    have := (hB.2.1 k hk).2.2.2.2.2.2 q hq
    omega
  have nub : ∀ q, q < 5 → D 6 p q ≤ 60 := fun q hq => by
    have := (hB.2.2.1 p hp).1 q hq
    omega
  -- every sheet that is known of it
  have l544 : ∀ k, k ≤ D 1 0 0 → Wx K_LW_law d rc rs Q 544 [(0, .ref a0), (2, .ref (hd 100 0)), (3, .ref (hd 8 0)), (4, .ref a4), (5, .int x5), (6, .int x6), (7, .long x7), (9, .int (nI (T 0 0))), (10, .int (nI (D 1 0 0))), (12, .int x12), (13, .int x13), (14, .int x14), (15, .int (nI p)), (17, .int (nI n)), (18, .ref a18), (19, .int (nI k))] [] μ := by
    refine up_loop _ ?_ (fun k hk ih => ?_)
    · refine r_LW_law_544 (by omega) ⟨fun _ => ?_, fun h => absurd (Int32.le_refl _) h⟩
      rw [nI_s]; exact kk
    · obtain ⟨v0, v1, v2, v3, v4, v5, v6⟩ := hB.2.1 k hk
      have l659 : Wx K_LW_law d rc rs Q 659 [(0, .ref a0), (2, .ref (hd 100 0)), (3, .ref (hd 8 0)), (4, .ref a4), (5, .int x5), (6, .int x6), (7, .long x7), (9, .int (nI (T 0 0))), (10, .int (nI (D 1 0 0))), (12, .int x12), (13, .int x13), (14, .int x14), (15, .int (nI p)), (17, .int (nI n)), (18, .ref a18), (19, .int (nI k))] [] μ := by
        refine r_LW_law_659 (by omega) ?_
        rw [nI_s]; exact ih
      have s4 := stb k hk (D 4 k 0) (by omega)
      have s6 := nub (D 4 k 0) (by omega)
      refine r_LW_law_544 (by omega) ⟨fun h => absurd ((nI_leI (by omega) (by omega)).mp h) (by omega), fun _ => ?_⟩
      refine ⟨0, 0, hz, h8, q_sheet (k := 1) hC hk (by decide) (by omega) hS ⟨_, rfl, fun h1 => ?_, fun _ => l659⟩⟩
      have hn1 : D 4 k 1 = n := (nI_eq (by omega) (by omega)).mp h1
      refine ⟨0, 0, hz, h8, q_sheet (k := 0) hC hk (by decide) (by omega) hS ⟨_, rfl, ?_⟩⟩
      refine ⟨0, 0, hz, h8, q_stamp hC hk v0 (by omega) hS ⟨_, rfl, ?_⟩⟩
      refine ⟨0, 0, hz, h8, q_sheet (k := 0) hC hk (by decide) (by omega) hS ⟨_, rfl, ?_⟩⟩
      refine ⟨0, 0, hz, h8, q_knows hC hp v0 (by omega) hS ⟨_, rfl, fun h => ⟨_, hs18, ?_⟩, fun _ => l659⟩⟩
      have hkn : kn D p k := (nI_leI (by omega) (by omega)).mp h
      obtain ⟨u, u1, u2, u3⟩ := h2.2.2.2.1 p k hp hk hkn
      obtain ⟨iu, iu1, iu2⟩ := getD_mem.mp ((sh_row hB hp hn).mpr ⟨u1, by rw [u2, hn1]⟩)
      have hcu : cmpN D k ((shL D p n).getD iu 0 - 1) < 2 := by
        rw [iu2, Nat.add_sub_cancel]
        unfold cmpN
        by_cases z : k = u
        · rw [if_pos z]; omega
        · rw [if_neg z, if_pos u3]; omega
      have l610 : ∀ j, j ≤ (shL D p n).length → Wx K_LW_law d rc rs Q 610 [(0, .ref a0), (2, .ref (hd 100 0)), (3, .ref (hd 8 0)), (4, .ref a4), (5, .int x5), (6, .int x6), (7, .long x7), (9, .int (nI (T 0 0))), (10, .int (nI (D 1 0 0))), (12, .int x12), (13, .int x13), (14, .int x14), (15, .int (nI p)), (17, .int (nI n)), (18, .ref a18), (19, .int (nI k)), (20, .int (bI (∃ i, i < j ∧ cmpN D k ((shL D p n).getD i 0 - 1) < 2))), (21, .ref a18), (22, .int (nI (shL D p n).length)), (23, .int (nI j))] [] μ := by
        refine up_loop _ ?_ (fun j hj ihj => ?_)
        · refine r_LW_law_610 (by omega) ⟨fun _ => ⟨fun h => absurd ⟨iu, iu1, hcu⟩ (bI_z.mp h), fun _ => l659⟩, fun h => absurd (Int32.le_refl _) h⟩
        · have aj := sh_at hB hp hn hj
          have hc3 := cmp_le (D := D) (s := k) (u := (shL D p n).getD j 0 - 1)
          refine r_LW_law_610 (by omega) ⟨fun h => absurd ((nI_leI (by omega) (by omega)).mp h) (by omega), fun _ => ⟨_, ⟨hs18, vI hj (by omega)⟩, 0, 0, hz, h8, ?_⟩⟩
          rw [e31 j (by omega), hw j hj]
          refine q_compare hC hk aj.1 (by omega) hS ⟨_, rfl, fun h => ?_, fun h => ?_⟩
          · have hge : 2 ≤ cmpN D k ((shL D p n).getD j 0 - 1) := (nI_leI (a := 2) (by decide) (by omega)).mp h
            have e : bI (∃ i, i < j ∧ cmpN D k ((shL D p n).getD i 0 - 1) < 2) ||| (0 : Int32) = bI (∃ i, i < j + 1 ∧ cmpN D k ((shL D p n).getD i 0 - 1) < 2) := by
              rw [Int32.or_zero]
              refine bI_congr ⟨fun ⟨i, i1, i2⟩ => ⟨i, by omega, i2⟩, fun ⟨i, i1, i2⟩ => ⟨i, ?_, i2⟩⟩
              rcases Nat.lt_or_ge i j with y | y
              · exact y
              · obtain rfl : i = j := by omega
                omega
            rw [e, nI_s]; exact ihj
          · have hlt : cmpN D k ((shL D p n).getD j 0 - 1) < 2 := by
              rcases Nat.lt_or_ge (cmpN D k ((shL D p n).getD j 0 - 1)) 2 with y | y
              · exact y
              · exact absurd ((nI_leI (a := 2) (by decide) (by omega)).mpr y) h
            have e : bI (∃ i, i < j ∧ cmpN D k ((shL D p n).getD i 0 - 1) < 2) ||| (1 : Int32) = bI (∃ i, i < j + 1 ∧ cmpN D k ((shL D p n).getD i 0 - 1) < 2) := by
              rw [bI_t (p := ∃ i, i < j + 1 ∧ cmpN D k ((shL D p n).getD i 0 - 1) < 2) ⟨j, by omega, hlt⟩]
              rcases bI_01 (p := ∃ i, i < j ∧ cmpN D k ((shL D p n).getD i 0 - 1) < 2) with y | y <;> rw [y] <;> decide
            rw [e, nI_s]; exact ihj
      have z := l610 0 (Nat.zero_le _)
      rw [bI_f (fun ⟨i, i1, _⟩ => absurd i1 (Nat.not_lt_zero _))] at z
      exact z
  -- what is shown
  have l409 : ∀ i, i ≤ (shL D p n).length → Wx K_LW_law d rc rs Q 409 [(0, .ref a0), (2, .ref (hd 100 0)), (3, .ref (hd 8 0)), (4, .ref a4), (5, .int x5), (6, .int x6), (7, .long x7), (9, .int (nI (T 0 0))), (10, .int (nI (D 1 0 0))), (12, .int x12), (13, .int x13), (14, .int x14), (15, .int (nI p)), (17, .int (nI n)), (18, .ref a18), (19, .int (nI i))] [] μ := by
    refine up_loop _ ?_ (fun i hi ih => ?_)
    · exact r_LW_law_409 (by omega) ⟨_, hs18, fun _ => l544 0 (Nat.zero_le _), fun h => absurd (Int32.le_refl _) h⟩
    · have ai := sh_at hB hp hn hi
      obtain ⟨v0, v1, v2, v3, v4, v5, v6⟩ := hB.2.1 _ ai.1
      have s4 := stb _ ai.1 (D 4 ((shL D p n).getD i 0 - 1) 0) (by omega)
      have s6 := nub (D 4 ((shL D p n).getD i 0 - 1) 0) (by omega)
      have hkn : kn D p ((shL D p n).getD i 0 - 1) := h2.2.1 p _ hp ai.2.1
      have l485 : ∀ j, j ≤ i → Wx K_LW_law d rc rs Q 485 [(0, .ref a0), (2, .ref (hd 100 0)), (3, .ref (hd 8 0)), (4, .ref a4), (5, .int x5), (6, .int x6), (7, .long x7), (9, .int (nI (T 0 0))), (10, .int (nI (D 1 0 0))), (12, .int x12), (13, .int x13), (14, .int x14), (15, .int (nI p)), (17, .int (nI n)), (18, .ref a18), (19, .int (nI i)), (20, .int (nI ((shL D p n).getD i 0 - 1))), (21, .int (nI j))] [] μ := by
        refine up_loop _ ?_ (fun j hj ihj => ?_)
        · refine r_LW_law_485 (by omega) ⟨fun _ => ?_, fun h => absurd (Int32.le_refl _) h⟩
          rw [nI_s]; exact ih
        · have aj := sh_at hB hp hn (show j < (shL D p n).length by omega)
          have c3 := cmp_3 hI h2 hp hn hj hi
          have so := sh_ord hB hp (show n < 6 by omega) hj hi
          have vj := (hB.2.1 _ aj.1).1
          refine r_LW_law_485 (by omega) ⟨fun h => absurd ((nI_leI (by omega) (by omega)).mp h) (by omega), fun _ => ⟨_, ⟨hs18, vI (by omega) (by omega)⟩, 0, 0, hz, h8, ?_⟩⟩
          rw [e31 j (by omega), hw j (by omega)]
          refine q_compare hC ai.1 aj.1 (by omega) hS ⟨_, rfl, fun _ => ?_, fun h => absurd (by rw [c3]; rfl) h⟩
          refine ⟨0, 0, hz, h8, q_sheet (k := 0) hC ai.1 (by decide) (by omega) hS ⟨_, rfl, _, ⟨hs18, vI (by omega) (by omega)⟩, 0, 0, hz, h8, ?_⟩⟩
          rw [hw j (by omega)]
          refine q_sheet (k := 0) hC aj.1 (by decide) (by omega) hS ⟨_, rfl, fun _ => ?_, fun h => absurd ((nI_ltI (a := D 4 ((shL D p n).getD j 0 - 1) 0) (b := D 4 ((shL D p n).getD i 0 - 1) 0) (by omega) (by omega)).mpr so) h⟩
          rw [nI_s]; exact ihj
      refine r_LW_law_409 (by omega) ⟨_, hs18, fun h => absurd ((nI_leI (by omega) (by omega)).mp h) (by omega), fun _ => ⟨0, 0, hz, h8, ?_⟩⟩
      refine q_shown hC hp hn hi (by omega) hS ⟨_, rfl, _, ⟨hs18, vI hi (by omega)⟩, ?_⟩
      rw [e31 i (by omega), hw i hi]
      refine ⟨fun _ => ?_, fun h => absurd rfl h⟩
      refine ⟨0, 0, hz, h8, q_sheet (k := 1) hC ai.1 (by decide) (by omega) hS ⟨_, rfl, fun _ => ?_, fun h => absurd (congrArg nI ai.2.2) h⟩⟩
      refine ⟨0, 0, hz, h8, q_sheet (k := 0) hC ai.1 (by decide) (by omega) hS ⟨_, rfl, ?_⟩⟩
      refine ⟨0, 0, hz, h8, q_stamp hC ai.1 v0 (by omega) hS ⟨_, rfl, ?_⟩⟩
      refine ⟨0, 0, hz, h8, q_sheet (k := 0) hC ai.1 (by decide) (by omega) hS ⟨_, rfl, ?_⟩⟩
      refine ⟨0, 0, hz, h8, q_knows hC hp v0 (by omega) hS ⟨_, rfl, fun _ => ?_, fun h => absurd ((nI_leI (by omega) (by omega)).mpr hkn) h⟩⟩
      exact l485 0 (Nat.zero_le _)
  exact l409 0 (Nat.zero_le _)
end LD
