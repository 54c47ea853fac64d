/-! the law's list: an order's row is chosen -/
section LI4
variable {d rc rs : Nat} {Q : Option Value → Mu → Prop} {μ m μ' : Mu} {P N R j c cv Ls p n kd : Nat} {X W : Nat → Nat → Nat} {w : Nat → Nat} {x6 x7 x8 : Int32}
def Rw (μ m : Mu) (j : Nat) (w : Nat → Nat) : Prop := FrS (fun κ i => κ = 118 ∧ i = j) μ m ∧ R8 m j w
theorem Rw.mk : Rw μ (mkA μ (hd 118 j) (2, 8)) j (fun _ => 0) := ⟨FrS.rf.mk (by decide) ⟨rfl, rfl⟩, if_pos rfl, fun i _ => by rw [gI_hi (hi_hd (by decide) (by decide))]; exact if_pos rfl⟩
theorem Rw.set {i x : Int32} {k v : Nat} (h : Rw μ m j w) (hi : i.toNatClampNeg = k) (hx : x = nI v) : Rw μ (setI m (hd 118 j) i.toNatClampNeg x) j (upN w k v) := by
  rw [hi, hx]
  refine ⟨h.1.sI (by decide) ⟨rfl, rfl⟩, h.2.1, fun l hl => ?_⟩
  rw [gI_hi (hi_hd (by decide) (by decide)), mI_set]
  by_cases e : l = k
  · rw [if_pos ⟨rfl, e⟩, e, upN_r]
  · rw [if_neg (fun z => e z.2), upN_o e, ← gI_hi (hi_hd (by decide) (by decide))]; exact h.2.2 l hl
theorem Rw.st (h : Rw μ m j w) (hS : S8 μ) : S8 m := h.1.s8 (fun κ i z => by omega) hS
theorem Rw.sh (h : Rw μ m j w) : mS m (hd 118 j) = (2, 8) := h.2.1
def oB1 (P N R kd p n : Nat) (w : Nat → Nat) : Prop := (w 0 = kd ∧ kd ≤ 3) ∧ (kd = 3 → w 1 < R) ∧ (kd ≠ 3 → w 1 = p) ∧ p < P ∧ w 2 = n ∧ n < N ∧ w 3 ≤ 2 ∧ w 4 ≤ 15 ∧ (kd = 2 → w 4 < 3) ∧ w 5 ≤ 5
/-- all of it, and where it comes from -/
def oB2 (P N R kd p n : Nat) (w : Nat → Nat) : Prop := oB P N R w ∧ w 0 = kd ∧ p < P ∧ n < N ∧ (kd ≠ 3 → w 1 = p ∧ w 2 = n)
set_option maxRecDepth 100000 in
theorem li_594 (hD : 2 ≤ d) (hS : S8 μ) (hw : Rw μ m j w) (h1 : oB1 P N R kd p n w) (h2 : kd ≤ 1 → w 5 ≠ 0) (h3 : w 5 = 3 → 2 ≤ w 6 ∧ w 6 ≤ 8 ∧ w 7 ≤ 8) (h4 : w 5 ≠ 3 → w 6 < P ∧ w 7 < N) (hP : P ≤ 5) (hN : N ≤ 3)
    (kk : ∀ m w, Rw μ m j w → oB2 P N R kd p n w → Wx K_LW_list d rc rs Q 616 [(0, .ref (hd 6 0)), (1, .ref (hd 105 0)), (2, .ref (hd 100 0)), (3, .int (nI P)), (4, .int (nI N)), (5, .int (nI R)), (6, .int x6), (8, .int (nI kd)), (9, .int (nI p)), (10, .int (nI n)), (11, .ref (hd 118 j))] [] m) : Wx K_LW_list d rc rs Q 594 [(0, .ref (hd 6 0)), (1, .ref (hd 105 0)), (2, .ref (hd 100 0)), (3, .int (nI P)), (4, .int (nI N)), (5, .int (nI R)), (6, .int x6), (7, .int x7), (8, .int (nI kd)), (9, .int (nI p)), (10, .int (nI n)), (11, .ref (hd 118 j))] [] m := by
  have g5 : gI m (hd 118 j) (5 : Int32).toNatClampNeg = nI (w 5) := hw.2.2 5 (by decide)
  obtain ⟨⟨a1, a1'⟩, a2, a3, a4, a5, a6, a7, a8, a9, a10⟩ := id h1
  refine y_LW_list_594 (by omega) ⟨8, ⟨hw.sh, vI (k := 5) (by decide) (by decide)⟩, ?_⟩
  rw [g5]
  refine ⟨fun z => ?_, fun z => ?_⟩
  · have e : w 5 = 4 := (nI_eq (b := 4) (by omega) (by decide)).mp z
    obtain ⟨b6, b7⟩ := h4 (by omega)
    refine c8_below (n := 3) (by decide) (by decide) (by omega) (hw.st hS) ⟨_, rfl, 8, ⟨hw.sh, vI (k := 7) (by decide) (by decide), hi_hd (by decide) (by decide)⟩, ?_⟩
    have hb := below_lt (x := x7 >>> ((9 : Int32) &&& 31)) (n := 3) (by decide)
    refine kk _ _ (hw.set (i := 7) (k := 7) rfl rfl) ?_
    generalize belowN (x7 >>> ((9 : Int32) &&& 31)) 3 = v at hb
    have u : ∀ k, k ≠ 7 → upN w 7 v k = w k := fun k hk => upN_o hk
    have u7 : upN w 7 v 7 = v := upN_r
    refine ⟨?_, by rw [u 0 (by decide)]; exact a1, a4, a6, fun z => by rw [u 1 (by decide), u 2 (by decide)]; exact ⟨a3 z, a5⟩⟩
    unfold oB
    rw [u 0 (by decide), u 1 (by decide), u 2 (by decide), u 3 (by decide), u 4 (by decide), u 5 (by decide), u 6 (by decide), u7, a1, a5]
    exact ⟨a1', a2, fun z => by rw [a3 z]; exact a4, a6, a7, a8, a9, a10, h2, by omega, by omega, fun z => by omega, fun z => by omega, fun _ => ⟨b6, hb⟩⟩
  · have e : w 5 ≠ 4 := fun y => z (by rw [y]; rfl)
    refine kk _ _ hw ⟨?_, a1, a4, a6, fun z => ⟨a3 z, a5⟩⟩
    unfold oB
    rw [a1, a5]
    by_cases e3 : w 5 = 3
    · obtain ⟨c1, c2, c3⟩ := h3 e3
      exact ⟨a1', a2, fun z => by rw [a3 z]; exact a4, a6, a7, a8, a9, a10, h2, c2, c3, fun z => by omega, fun _ => c1, fun z => by omega⟩
    · obtain ⟨b6, b7⟩ := h4 e3
      exact ⟨a1', a2, fun z => by rw [a3 z]; exact a4, a6, a7, a8, a9, a10, h2, by omega, by omega, fun _ => ⟨b6, b7⟩, fun z => by omega, fun z => by omega⟩
set_option maxRecDepth 100000 in
theorem li_569 (hD : 2 ≤ d) (hS : S8 μ) (hw : Rw μ m j w) (h1 : oB1 P N R kd p n w) (h2 : kd ≤ 1 → w 5 ≠ 0) (h3 : w 5 = 3 → 2 ≤ w 6 ∧ w 6 ≤ 8) (h4 : w 5 ≠ 3 → w 6 < P ∧ w 7 < N) (hP : P ≤ 5) (hN : N ≤ 3)
    (kk : ∀ m w, Rw μ m j w → oB2 P N R kd p n w → Wx K_LW_list d rc rs Q 616 [(0, .ref (hd 6 0)), (1, .ref (hd 105 0)), (2, .ref (hd 100 0)), (3, .int (nI P)), (4, .int (nI N)), (5, .int (nI R)), (6, .int x6), (8, .int (nI kd)), (9, .int (nI p)), (10, .int (nI n)), (11, .ref (hd 118 j))] [] m) : Wx K_LW_list d rc rs Q 569 [(0, .ref (hd 6 0)), (1, .ref (hd 105 0)), (2, .ref (hd 100 0)), (3, .int (nI P)), (4, .int (nI N)), (5, .int (nI R)), (6, .int x6), (7, .int x7), (8, .int (nI kd)), (9, .int (nI p)), (10, .int (nI n)), (11, .ref (hd 118 j))] [] m := by
  have g5 : gI m (hd 118 j) (5 : Int32).toNatClampNeg = nI (w 5) := hw.2.2 5 (by decide)
  have g6 : gI m (hd 118 j) (6 : Int32).toNatClampNeg = nI (w 6) := hw.2.2 6 (by decide)
  have b5 := h1.2.2.2.2.2.2.2.2.2
  refine y_LW_list_569 (by omega) ⟨8, ⟨hw.sh, vI (k := 5) (by decide) (by decide)⟩, ?_⟩
  rw [g5, g6]
  refine ⟨fun z => ?_, fun z => ?_⟩
  · have e : w 5 = 3 := (nI_eq (b := 3) (by omega) (by decide)).mp z
    obtain ⟨c1, c2⟩ := h3 e
    refine ⟨8, ⟨hw.sh, vI (k := 6) (by decide) (by decide)⟩, c8_below (n := w 6) (by omega) (by omega) (by omega) (hw.st hS) ⟨_, rfl, 8, ⟨hw.sh, vI (k := 7) (by decide) (by decide), hi_hd (by decide) (by decide)⟩, ?_⟩⟩
    have hb := below_lt (x := x7 >>> ((4 : Int32) &&& 31)) (n := w 6) (by omega)
    have u : ∀ k, k ≠ 7 → upN w 7 (belowN (x7 >>> ((4 : Int32) &&& 31)) (w 6)) k = w k := fun k hk => upN_o hk
    have u7 : upN w 7 (belowN (x7 >>> ((4 : Int32) &&& 31)) (w 6)) 7 = belowN (x7 >>> ((4 : Int32) &&& 31)) (w 6) := upN_r
    refine li_594 hD hS (hw.set (i := 7) (k := 7) rfl rfl) ?_ ?_ ?_ ?_ hP hN kk
    · unfold oB1
      rw [u 0 (by decide), u 1 (by decide), u 2 (by decide), u 3 (by decide), u 4 (by decide), u 5 (by decide)]; exact h1
    · rw [u 5 (by decide)]; exact h2
    · rw [u 5 (by decide), u 6 (by decide), u7]; exact fun _ => ⟨c1, c2, by omega⟩
    · rw [u 5 (by decide)]; exact fun y => absurd e y
  · have e : w 5 ≠ 3 := fun y => z (by rw [y]; rfl)
    exact li_594 hD hS hw h1 h2 (fun y => absurd y e) h4 hP hN kk
set_option maxRecDepth 100000 in
theorem li_544 (hD : 2 ≤ d) (hS : S8 μ) (hw : Rw μ m j w) (h1 : oB1 P N R kd p n w) (h2 : kd ≤ 1 → w 5 ≠ 0) (h4 : w 6 < P ∧ w 7 < N) (hP : P ≤ 5) (hN : N ≤ 3)
    (kk : ∀ m w, Rw μ m j w → oB2 P N R kd p n w → Wx K_LW_list d rc rs Q 616 [(0, .ref (hd 6 0)), (1, .ref (hd 105 0)), (2, .ref (hd 100 0)), (3, .int (nI P)), (4, .int (nI N)), (5, .int (nI R)), (6, .int x6), (8, .int (nI kd)), (9, .int (nI p)), (10, .int (nI n)), (11, .ref (hd 118 j))] [] m) : Wx K_LW_list d rc rs Q 544 [(0, .ref (hd 6 0)), (1, .ref (hd 105 0)), (2, .ref (hd 100 0)), (3, .int (nI P)), (4, .int (nI N)), (5, .int (nI R)), (6, .int x6), (7, .int x7), (8, .int (nI kd)), (9, .int (nI p)), (10, .int (nI n)), (11, .ref (hd 118 j))] [] m := by
  have g5 : gI m (hd 118 j) (5 : Int32).toNatClampNeg = nI (w 5) := hw.2.2 5 (by decide)
  have b5 := h1.2.2.2.2.2.2.2.2.2
  refine y_LW_list_544 (by omega) ⟨8, ⟨hw.sh, vI (k := 5) (by decide) (by decide)⟩, ?_⟩
  rw [g5]
  refine ⟨fun z => ?_, fun z => ?_⟩
  · have e : w 5 = 3 := (nI_eq (b := 3) (by omega) (by decide)).mp z
    refine c8_below (n := 7) (by omega) (by omega) (by omega) (hw.st hS) ⟨_, rfl, 8, ⟨hw.sh, vI (k := 6) (by decide) (by decide), hi_hd (by decide) (by decide)⟩, ?_⟩
    have hb := below_lt (x := x7 >>> ((9 : Int32) &&& 31)) (n := 7) (by omega)
    generalize belowN (x7 >>> ((9 : Int32) &&& 31)) 7 = v at hb
    have u : ∀ k, k ≠ 6 → upN w 6 (2 + v) k = w k := fun k hk => upN_o hk
    have u7 : upN w 6 (2 + v) 6 = 2 + v := upN_r
    refine li_569 hD hS (hw.set (i := 6) (k := 6) (v := 2 + v) rfl (by rw [I2, nI_add])) ?_ ?_ ?_ ?_ hP hN kk
    · unfold oB1
      rw [u 0 (by decide), u 1 (by decide), u 2 (by decide), u 3 (by decide), u 4 (by decide), u 5 (by decide)]; exact h1
    · rw [u 5 (by decide)]; exact h2
    · rw [u7]; exact fun _ => ⟨by omega, by omega⟩
    · rw [u 5 (by decide)]; exact fun y => absurd e y
  · have e : w 5 ≠ 3 := fun y => z (by rw [y]; rfl)
    exact li_569 hD hS hw h1 h2 (fun y => absurd y e) (fun _ => h4) hP hN kk
set_option maxRecDepth 100000 in
theorem li_526 (hD : 2 ≤ d) (hS : S8 μ) (hw : Rw μ m j w) (h1 : oB1 P N R kd p n w) (h4 : w 6 < P ∧ w 7 < N) (hP : P ≤ 5) (hN : N ≤ 3)
    (kk : ∀ m w, Rw μ m j w → oB2 P N R kd p n w → Wx K_LW_list d rc rs Q 616 [(0, .ref (hd 6 0)), (1, .ref (hd 105 0)), (2, .ref (hd 100 0)), (3, .int (nI P)), (4, .int (nI N)), (5, .int (nI R)), (6, .int x6), (8, .int (nI kd)), (9, .int (nI p)), (10, .int (nI n)), (11, .ref (hd 118 j))] [] m) : Wx K_LW_list d rc rs Q 526 [(0, .ref (hd 6 0)), (1, .ref (hd 105 0)), (2, .ref (hd 100 0)), (3, .int (nI P)), (4, .int (nI N)), (5, .int (nI R)), (6, .int x6), (7, .int x7), (8, .int (nI kd)), (9, .int (nI p)), (10, .int (nI n)), (11, .ref (hd 118 j))] [] m := by
  have g5 : gI m (hd 118 j) (5 : Int32).toNatClampNeg = nI (w 5) := hw.2.2 5 (by decide)
  have b5 := h1.2.2.2.2.2.2.2.2.2
  have k3 := h1.1.2
  refine y_LW_list_526 (by omega) ⟨fun z => ?_, fun z => ⟨8, ⟨hw.sh, vI (k := 5) (by decide) (by decide)⟩, ?_⟩⟩
  · have := (nI_leI (a := 2) (by decide) (by omega)).mp z
    exact li_544 hD hS hw h1 (fun y => by omega) h4 hP hN kk
  · rw [g5]
    refine ⟨fun y => ⟨8, ⟨hw.sh, vI (k := 5) (by decide) (by decide), hi_hd (by decide) (by decide)⟩, ?_⟩, fun y => ?_⟩
    · have u : ∀ k, k ≠ 5 → upN w 5 5 k = w k := fun k hk => upN_o hk
      have u7 : upN w 5 5 5 = 5 := upN_r
      refine li_544 hD hS (hw.set (i := 5) (k := 5) (v := 5) rfl rfl) ?_ ?_ ?_ hP hN kk
      · unfold oB1
        rw [u 0 (by decide), u 1 (by decide), u 2 (by decide), u 3 (by decide), u 4 (by decide), u7]
        obtain ⟨a1, a2, a3, a4, a5, a6, a7, a8, a9, a10⟩ := h1
        exact ⟨a1, a2, a3, a4, a5, a6, a7, a8, a9, by decide⟩
      · rw [u7]; exact fun _ => by decide
      · rw [u 6 (by decide), u 7 (by decide)]; exact h4
    · exact li_544 hD hS hw h1 (fun _ e => y (by rw [e]; rfl)) h4 hP hN kk
set_option maxRecDepth 100000 in
set_option maxHeartbeats 1000000 in
theorem li_382 (hD : 2 ≤ d) (S : S8 μ) (hk : kd ≤ 3) (hP2 : 2 ≤ P) (hP : P ≤ 5) (hN1 : 1 ≤ N) (hN : N ≤ 3) (hR1 : 1 ≤ R) (hR : R ≤ 8) (hf : mS μ (hd 118 j) = (0, 0)) (b1 : 1 ≤ rc) (b2 : 8 ≤ rs)
    (kk : ∀ rc' rs', rc' = rc - 1 → rs' = rs - 8 → ∀ m w p n, Rw μ m j w → oB2 P N R kd p n w → Wx K_LW_list d rc' rs' Q 616 [(0, .ref (hd 6 0)), (1, .ref (hd 105 0)), (2, .ref (hd 100 0)), (3, .int (nI P)), (4, .int (nI N)), (5, .int (nI R)), (6, .int x6), (8, .int (nI kd)), (9, .int (nI p)), (10, .int (nI n)), (11, .ref (hd 118 j))] [] m) : Wx K_LW_list d rc rs Q 382 [(0, .ref (hd 6 0)), (1, .ref (hd 105 0)), (2, .ref (hd 100 0)), (3, .int (nI P)), (4, .int (nI N)), (5, .int (nI R)), (6, .int x6), (7, .int x7)] [.int (nI kd)] μ := by
  have H5 : hiN (hd 118 j) := hi_hd (by decide) (by decide)
  have hp := below_lt (x := x7 >>> ((3 : Int32) &&& 31)) (n := P) (by omega)
  have hn := below_lt (x := x7 >>> ((5 : Int32) &&& 31)) (n := N) (by omega)
  refine y_LW_list_382 (by omega) (c8_below (n := P) (by omega) (by omega) (by omega) S ⟨_, rfl, c8_below (n := N) (by omega) (by omega) (by omega) S ⟨_, rfl, ⟨by decide, by decide, by omega, by omega⟩, hd 118 j, ⟨hf, H5⟩, 8, ⟨if_pos rfl, vI (k := 0) (by decide) (by decide), H5⟩, ?_⟩⟩)
  have R0 := (Rw.mk (μ := μ) (j := j)).set (i := 0) (k := 0) (x := nI kd) rfl rfl
  refine ⟨fun z => ?_, fun z => ?_⟩
  · have e : kd = 3 := (nI_eq (b := 3) (by omega) (by decide)).mp z
    refine c8_below (n := R) (by omega) (by omega) (by omega) (R0.st S) ⟨_, rfl, 8, ⟨R0.sh, vI (k := 1) (by decide) (by decide), H5⟩, ?_⟩
    have q1 := below_lt (x := x7 >>> ((4 : Int32) &&& 31)) (n := R) (by omega)
    have R1 := R0.set (i := 1) (k := 1) (x := nI (belowN (x7 >>> ((4 : Int32) &&& 31)) R)) rfl rfl
    refine ⟨8, ⟨R1.sh, vI (k := 2) (by decide) (by decide), H5⟩, ?_⟩
    have R2 := R1.set (i := 2) (k := 2) (x := nI (belowN (x7 >>> ((5 : Int32) &&& 31)) N)) rfl rfl
    refine c8_below (n := 3) (by decide) (by decide) (by omega) (R2.st S) ⟨_, rfl, 8, ⟨R2.sh, vI (k := 3) (by decide) (by decide), H5⟩, ?_⟩
    have q3 := below_lt (x := x7 >>> ((6 : Int32) &&& 31)) (n := 3) (by omega)
    have R3 := R2.set (i := 3) (k := 3) (x := nI (belowN (x7 >>> ((6 : Int32) &&& 31)) 3)) rfl rfl
    refine c8_below (n := 16) (by decide) (by decide) (by omega) (R3.st S) ⟨_, rfl, 8, ⟨R3.sh, vI (k := 4) (by decide) (by decide), H5⟩, ?_⟩
    have q4 := below_lt (x := x7 >>> ((7 : Int32) &&& 31)) (n := 16) (by omega)
    have R4 := R3.set (i := 4) (k := 4) (x := nI (belowN (x7 >>> ((7 : Int32) &&& 31)) 16)) rfl rfl
    refine c8_below (n := 6) (by decide) (by decide) (by omega) (R4.st S) ⟨_, rfl, 8, ⟨R4.sh, vI (k := 5) (by decide) (by decide), H5⟩, ?_⟩
    have q5 := below_lt (x := x7 >>> ((8 : Int32) &&& 31)) (n := 6) (by omega)
    have R5 := R4.set (i := 5) (k := 5) (x := nI (belowN (x7 >>> ((8 : Int32) &&& 31)) 6)) rfl rfl
    refine c8_below (n := P) (by omega) (by omega) (by omega) (R5.st S) ⟨_, rfl, 8, ⟨R5.sh, vI (k := 6) (by decide) (by decide), H5⟩, ?_⟩
    have q6 := below_lt (x := x7 >>> ((2 : Int32) &&& 31)) (n := P) (by omega)
    have R6 := R5.set (i := 6) (k := 6) (x := nI (belowN (x7 >>> ((2 : Int32) &&& 31)) P)) rfl rfl
    refine c8_below (n := N) (by omega) (by omega) (by omega) (R6.st S) ⟨_, rfl, 8, ⟨R6.sh, vI (k := 7) (by decide) (by decide), H5⟩, ?_⟩
    have q7 := below_lt (x := x7 >>> ((4 : Int32) &&& 31)) (n := N) (by omega)
    have R7 := R6.set (i := 7) (k := 7) (x := nI (belowN (x7 >>> ((4 : Int32) &&& 31)) N)) rfl rfl
    refine ⟨fun y => ?_, fun _ => ?_⟩
    · have := (nI_eq (b := 2) (by omega) (by decide)).mp y; omega
    · exact li_526 (kd := kd) hD S R7 ⟨⟨rfl, hk⟩, fun _ => q1, fun y => absurd e y, hp, rfl, hn, Nat.le_of_lt_succ q3, Nat.le_of_lt_succ q4, fun y => by omega, Nat.le_of_lt_succ q5⟩ ⟨q6, q7⟩ hP hN (fun m w a b => kk _ _ (by omega) (by omega) m w _ _ a b)
  · have e : kd ≠ 3 := fun y => z (by rw [y]; rfl)
    refine ⟨8, ⟨R0.sh, vI (k := 1) (by decide) (by decide), H5⟩, ?_⟩
    have q1 : belowN (x7 >>> ((3 : Int32) &&& 31)) P < P := hp
    have R1 := R0.set (i := 1) (k := 1) (x := nI (belowN (x7 >>> ((3 : Int32) &&& 31)) P)) rfl rfl
    refine ⟨8, ⟨R1.sh, vI (k := 2) (by decide) (by decide), H5⟩, ?_⟩
    have R2 := R1.set (i := 2) (k := 2) (x := nI (belowN (x7 >>> ((5 : Int32) &&& 31)) N)) rfl rfl
    refine c8_below (n := 3) (by decide) (by decide) (by omega) (R2.st S) ⟨_, rfl, 8, ⟨R2.sh, vI (k := 3) (by decide) (by decide), H5⟩, ?_⟩
    have q3 := below_lt (x := x7 >>> ((6 : Int32) &&& 31)) (n := 3) (by omega)
    have R3 := R2.set (i := 3) (k := 3) (x := nI (belowN (x7 >>> ((6 : Int32) &&& 31)) 3)) rfl rfl
    refine c8_below (n := 16) (by decide) (by decide) (by omega) (R3.st S) ⟨_, rfl, 8, ⟨R3.sh, vI (k := 4) (by decide) (by decide), H5⟩, ?_⟩
    have q4 := below_lt (x := x7 >>> ((7 : Int32) &&& 31)) (n := 16) (by omega)
    have R4 := R3.set (i := 4) (k := 4) (x := nI (belowN (x7 >>> ((7 : Int32) &&& 31)) 16)) rfl rfl
    refine c8_below (n := 6) (by decide) (by decide) (by omega) (R4.st S) ⟨_, rfl, 8, ⟨R4.sh, vI (k := 5) (by decide) (by decide), H5⟩, ?_⟩
    have q5 := below_lt (x := x7 >>> ((8 : Int32) &&& 31)) (n := 6) (by omega)
    have R5 := R4.set (i := 5) (k := 5) (x := nI (belowN (x7 >>> ((8 : Int32) &&& 31)) 6)) rfl rfl
    refine c8_below (n := P) (by omega) (by omega) (by omega) (R5.st S) ⟨_, rfl, 8, ⟨R5.sh, vI (k := 6) (by decide) (by decide), H5⟩, ?_⟩
    have q6 := below_lt (x := x7 >>> ((2 : Int32) &&& 31)) (n := P) (by omega)
    have R6 := R5.set (i := 6) (k := 6) (x := nI (belowN (x7 >>> ((2 : Int32) &&& 31)) P)) rfl rfl
    refine c8_below (n := N) (by omega) (by omega) (by omega) (R6.st S) ⟨_, rfl, 8, ⟨R6.sh, vI (k := 7) (by decide) (by decide), H5⟩, ?_⟩
    have q7 := below_lt (x := x7 >>> ((4 : Int32) &&& 31)) (n := N) (by omega)
    have R7 := R6.set (i := 7) (k := 7) (x := nI (belowN (x7 >>> ((4 : Int32) &&& 31)) N)) rfl rfl
    refine ⟨fun y => ?_, fun y => ?_⟩
    · have e2 : kd = 2 := (nI_eq (b := 2) (by omega) (by decide)).mp y
      refine c8_below (n := 3) (by decide) (by decide) (by omega) (R7.st S) ⟨_, rfl, 8, ⟨R7.sh, vI (k := 4) (by decide) (by decide), H5⟩, ?_⟩
      have q8 := below_lt (x := x7 >>> ((6 : Int32) &&& 31)) (n := 3) (by omega)
      have R8' := R7.set (i := 4) (k := 4) (x := nI (belowN (x7 >>> ((6 : Int32) &&& 31)) 3)) rfl rfl
      exact li_526 (kd := kd) hD S R8' ⟨⟨rfl, hk⟩, fun y => absurd y e, fun _ => rfl, hp, rfl, hn, Nat.le_of_lt_succ q3, Nat.le_trans (Nat.le_of_lt q8) (by decide), fun _ => q8, Nat.le_of_lt_succ q5⟩ ⟨q6, q7⟩ hP hN (fun m w a b => kk _ _ (by omega) (by omega) m w _ _ a b)
    · have e2 : kd ≠ 2 := fun u => y (by rw [u]; rfl)
      exact li_526 (kd := kd) hD S R7 ⟨⟨rfl, hk⟩, fun y => absurd y e, fun _ => rfl, hp, rfl, hn, Nat.le_of_lt_succ q3, Nat.le_of_lt_succ q4, fun y => absurd y e2, Nat.le_of_lt_succ q5⟩ ⟨q6, q7⟩ hP hN (fun m w a b => kk _ _ (by omega) (by omega) m w _ _ a b)
end LI4
