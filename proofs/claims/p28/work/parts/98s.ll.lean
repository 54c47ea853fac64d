/-! the law's list, as a whole -/
section LI7
variable {d rc rs : Nat} {Q : Option Value → Mu → Prop} {μ m μ' : Mu} {P N R j c cv Ls p n kd R1 R2 : Nat} {X W : Nat → Nat → Nat} {F G H : Nat → Nat} {w : Nat → Nat} {T0 Y : List Nat}
theorem nI_p (k : Nat) : nI (k + 1) + (-1 : Int32) = nI k := by rw [← nI_m k, Int32.sub_eq_add_neg]
set_option maxRecDepth 100000 in
set_option maxHeartbeats 1000000 in
theorem li_337 (hD : 9 ≤ d) (hP2 : 2 ≤ P) (hP : P ≤ 5) (hN1 : 1 ≤ N) (hN : N ≤ 3) (hR1 : 1 ≤ R) (hR : R ≤ 8) (hLs : Ls ≤ 260) (lT : T0.length ≤ 448)
    (hQ : ∀ μ c cv W O, O ≤ 10 → (∀ i, i < O → oB P N R (W i)) → LsT μ P N R O X W cv c (T0 ++ flT (fl (fun k => orT (W k)) O)) Ls → WR μ R → Q (some (.ref (hd 100 0))) μ) :
    ∀ k μ c cv rc rs j W, j + k ≤ 10 → (∀ i, i < j → oB P N R (W i)) → LsT μ P N R j X W cv c (T0 ++ flT (fl (fun k => orT (W k)) j)) Ls → WR μ R → k * 48 ≤ rc → k * 103508 ≤ rs → Wx K_LW_list d rc rs (fun r μ' => S8 μ' ∧ Q r μ') 337 [(0, .ref (hd 6 0)), (1, .ref (hd 105 0)), (2, .ref (hd 100 0)), (3, .int (nI P)), (4, .int (nI N)), (5, .int (nI R)), (6, .int (nI k))] [] μ := by
  intro k
  induction k with
  | zero =>
    intro μ c cv rc rs j W hj hO hL hW b1 b2
    have hd1 : 1 ≤ d := Nat.le_trans (by decide) hD
    have hj' : j ≤ 10 := hj
    exact y_LW_list_337 hd1 ⟨fun _ => ⟨hL.2.1.2.1, hQ μ c cv W j hj' hO hL hW⟩, fun h => absurd (Int32.le_refl _) h⟩
  | succ k ih =>
    intro μ c cv rc rs j W hj hO hL hW b1 b2
    obtain ⟨L0, M0, s0⟩ := hL
    have S := M0.2.1
    have lf := L0.2.2.2.2.2.2.2.2.2
    have lO := bl_od (W := W) (P := P) (N := N) (R := R) (j := j) (by omega) hP hN hR hO
    have lY : (T0 ++ flT (fl (fun k => orT (W k)) j)).length ≤ 1798 := by rw [List.length_append]; omega
    have go : ∀ (kd : Nat) (x7 : Int32), kd ≤ 3 → Wx K_LW_list d rc rs (fun r μ' => S8 μ' ∧ Q r μ') 382 [(0, .ref (hd 6 0)), (1, .ref (hd 105 0)), (2, .ref (hd 100 0)), (3, .int (nI P)), (4, .int (nI N)), (5, .int (nI R)), (6, .int (nI (k + 1))), (7, .int x7)] [.int (nI kd)] μ := fun kd x7 hk => by
      refine li_382 (by omega) S hk hP2 hP hN1 hN hR1 hR (lf.2.2.2.2.2.1 j (Nat.le_refl _)) (by omega) (by omega) (fun rc' rs' e1 e2 m w p n hw ho => ?_)
      have L1 := L0.row hw.1
      have M1 : Mb m cv c _ := M0.fx hw.1 (fun κ i z => by omega)
      have s1 := sc_fr s0 hw.1 (fun κ i z => by omega)
      have w1 : WR m R := BxR.fr hW hw.1 (hw.1.gr (by decide) (by omega)) (by decide) (by omega) (fun k _ => by omega)
      refine li_616 (R1 := k * 48) (R2 := k * 103508) hD (by omega) hP hN hR ho L1 M1 w1 s1 hw.2 lY (fun μ c cv rc rs hL hW b1 b2 => ?_) (by omega) (by omega)
      rw [nI_p]
      refine ih μ c cv rc rs (j + 1) (upW W j w) (by omega) (fun i hi => ?_) ?_ hW b1 b2
      · by_cases e : i = j
        · rw [e, upW_r]; exact ho.1
        · rw [upW_o e]; exact hO i (by omega)
      · have e : fl (fun k => orT (upW W j w k)) j = fl (fun k => orT (W k)) j := fl_cg j (fun i hi => by show orT (upW W j w i) = orT (W i); rw [upW_o (by omega)])
        have e2 : T0 ++ flT (fl (fun k => orT (upW W j w k)) (j + 1)) = (T0 ++ flT (fl (fun k => orT (W k)) j)) ++ flT (orT w) := by
          rw [flT_fl, e, List.append_assoc]
          show _ ++ (_ ++ flT (orT (upW W j w j))) = _
          rw [upW_r]
        rw [e2]; exact hL
    refine y_LW_list_337 (by omega) ⟨fun h => absurd ((nI_leI (b := 0) (by omega) (by decide)).mp h) (by omega), fun _ => c8_cell (k := 7) s0 hLs (by decide) (by omega) S (fun y => ⟨_, rfl, c8_below (n := 6) (by decide) (by decide) (by omega) S ⟨_, rfl, fun _ => c8_below (n := 3) (by decide) (by decide) (by omega) S ⟨_, rfl, ?_⟩, fun _ => ?_⟩⟩)⟩
    · have := below_lt (x := ((y >>> (nI (k + 1) &&& 31)) + ((71 : Int32) * nI (k + 1))) >>> ((2 : Int32) &&& 31)) (n := 3) (by decide)
      exact go _ _ (by omega)
    · exact go 3 _ (by decide)
/-- what the list gives: its text, its boards -/
def LEnd (μ : Mu) (P N R O : Nat) (F G H : Nat → Nat) (W : Nat → Nat → Nat) (cv c Ls : Nat) : Prop := PBd P N R O F G H W ∧ LsT μ P N R O (rX F G H) W cv c (flT (plT P N R O F G H W)) Ls ∧ WR μ R
set_option maxRecDepth 100000 in
set_option maxHeartbeats 1000000 in
theorem c_LW_list (hM : Mb μ cv c []) (hs : SCl μ Ls) (hLs : Ls ≤ 260) (hf : ∀ κ i, 100 ≤ κ → κ < 130 → κ ≠ 105 → mS μ (hd κ i) = (0, 0)) (hD : 12 ≤ d) (hc : 800 ≤ rc) (hr : 1450000 ≤ rs)
    (hQ : ∀ μ' c cv P N R O F G H W, LEnd μ' P N R O F G H W cv c Ls → 2 ≤ P → Q (some (.ref (hd 100 0))) μ') : CalS K_LW_list d rc rs [.ref (hd 6 0), .ref (hd 105 0)] μ Q := by
  have b0 : hiN (hd 100 0) := hi_hd (by decide) (by decide)
  have m0 : mS (mkA μ (hd 100 0) (1, 11)) (hd 100 0) = (1, 11) := by rw [mS_mk, if_pos rfl]
  have f0 : FrS (fun κ i => κ = 100 ∧ i = 0) μ (mkA μ (hd 100 0) (1, 11)) := FrS.rf.mk (by decide) ⟨rfl, rfl⟩
  have z0 : ∀ κ i, 100 < κ → κ < 130 → κ ≠ 105 → mS (mkA μ (hd 100 0) (1, 11)) (hd κ i) = (0, 0) := fun κ i a b e => (f0.S (by omega) (by omega)).trans (hf κ i (by omega) b e)
  have M0 : Mb (mkA μ (hd 100 0) (1, 11)) cv c [] := hM.fx f0 (fun κ i z => by omega)
  refine z_LW_list (y_LW_list_0 (by omega) ⟨⟨by omega, by omega⟩, hd 100 0, ⟨hf 100 0 (by decide) (by decide) (by decide), b0⟩, 5, 60, ⟨by omega, by omega⟩, c_SI_init m0 (z0 _ _ (by decide) (by decide) (by decide)) (z0 _ _ (by decide) (by decide) (by decide)) (z0 _ _ (by decide) (by decide) (by decide)) (z0 _ _ (by decide) (by decide) (by decide)) M0.1 M0.2.1 (by omega) (Nat.le_refl _) (Nat.le_refl _) (fun μ1 f1 S1 s1 i1 r1 t1 => ⟨rfl, ?_⟩)⟩)
  have sc1 : SCl μ1 Ls := sc_fr (sc_fr hs f0 (fun κ i z => by omega)) f1 (fun κ i z => by unfold OwI9 Dy at z; omega)
  have z1 : ∀ κ i, 100 < κ → κ < 130 → κ ≠ 105 → ¬ OwI9 c κ i → mS μ1 (hd κ i) = (0, 0) := fun κ i a b e o => (f1.S (by omega) o).trans (z0 κ i a b e)
  refine c8_cell (k := 0) sc1 hLs (by decide) (by omega) S1 (fun y => ⟨_, rfl, c8_below (n := 4) (by decide) (by decide) (by omega) S1 ⟨_, rfl, c8_cell (k := 0) sc1 hLs (by decide) (by omega) S1 (fun y' => ⟨_, rfl, c8_below (n := 3) (by decide) (by decide) (by omega) S1 ⟨_, rfl, ?_⟩⟩)⟩⟩)
  have hp := below_lt (x := y) (n := 4) (by decide)
  have hn := below_lt (x := y' >>> ((4 : Int32) &&& 31)) (n := 3) (by decide)
  rw [I2, nI_add, I1, nI_add]
  generalize hP : 2 + belowN y 4 = P
  generalize hN : 1 + belowN (y' >>> ((4 : Int32) &&& 31)) 3 = N
  have hP5 : 2 ≤ P ∧ P ≤ 5 := by omega
  have hN3 : 1 ≤ N ∧ N ≤ 3 := by omega
  refine ⟨18, 915, ⟨by omega, by omega⟩, s1, c_SI_begin s1 (fun i hi => z1 109 i (by decide) (by decide) (by decide) (by unfold OwI9 Dy; omega)) (fun i => z1 110 i (by decide) (by decide) (by decide) (by unfold OwI9 Dy; omega)) (fun i => z1 111 i (by decide) (by decide) (by decide) (by unfold OwI9 Dy; omega)) (fun i => z1 112 i (by decide) (by decide) (by decide) (by unfold OwI9 Dy; omega)) hP5.2 hN3.2 S1 (by omega) (Nat.le_refl _) (Nat.le_refl _) (fun μ2 f2 S2 s2 i2 i4 i5 r2 x8 x9 x10 => ⟨rfl, ?_⟩)⟩
  obtain ⟨a6, a7, a11, a13, a14⟩ := r1
  obtain ⟨t6, t7, t11, t13, t14⟩ := t1
  have k2 : ∀ κ i, κ < 256 → ¬ OwG9 κ i → mS μ2 (hd κ i) = mS μ1 (hd κ i) := fun κ i h o => f2.S h o
  have z2 : ∀ κ i, 100 < κ → κ < 130 → κ ≠ 105 → ¬ OwI9 c κ i → ¬ OwG9 κ i → mS μ2 (hd κ i) = (0, 0) := fun κ i a b e o o' => (k2 κ i (by omega) o').trans (z1 κ i a b e o)
  -- the builder through both
  obtain ⟨c1, c2, c3, v, n, c4, c5⟩ := M0
  have F1 : FC μ1 (c + 1) := c1.nx (Nat.le_succ _) f1 (fun κ i z h => by unfold OwI9 Dy at z; omega)
  have M1 : Mb μ1 cv (c + 1) [] := ⟨F1, S1, by omega, v, n, c4, c5.fr f1 (by decide) (by unfold OwI9 Dy; omega) (by unfold OwI9 Dy; omega)⟩
  have M2 := M1.fx f2 (fun κ i z => by unfold OwG9 at z; omega)
  have sc2 := sc_fr sc1 f2 (fun κ i z => by unfold OwG9 at z; omega)
  have gz : ∀ f, f < 4 → gI μ2 (hd 100 0) f = 0 := fun f hf' => by
    rw [i2 f hf', i1 f, gI_hi b0, mI_mk, if_pos rfl]
  have L2 : LQ μ2 P N 0 0 0 (fun _ _ => 0) (fun _ _ => 0) (c + 1) := by
    refine ⟨⟨s2, gz, i4, i5⟩, ⟨(r2 6 (by omega)).trans a6, (k2 _ _ (by decide) (by unfold OwG9; omega)).trans t6, fun k hk => absurd hk (Nat.not_lt_zero _)⟩, ⟨(r2 7 (by omega)).trans a7, (k2 _ _ (by decide) (by unfold OwG9; omega)).trans t7, fun k hk => absurd hk (Nat.not_lt_zero _)⟩, x8, x9, x10,
      ⟨(r2 11 (by omega)).trans a11, (k2 _ _ (by decide) (by unfold OwG9; omega)).trans t11, fun k hk => absurd hk (Nat.not_lt_zero _)⟩, ⟨(r2 14 (by omega)).trans a14, (k2 _ _ (by decide) (by unfold OwG9; omega)).trans t14, fun k hk => absurd hk (Nat.not_lt_zero _)⟩,
      LR.nil ((r2 13 (by omega)).trans a13) (Nat.lt_succ_self c) ((k2 _ _ (by decide) (by unfold OwG9; omega)).trans t13), M2.1, fun i => ⟨z2 _ _ (by decide) (by decide) (by decide) (by unfold OwI9 Dy; omega) (by unfold OwG9; omega), z2 _ _ (by decide) (by decide) (by decide) (by unfold OwI9 Dy; omega) (by unfold OwG9; omega)⟩, fun i hi => z2 _ _ (by decide) (by decide) (by decide) (by unfold OwI9 Dy; omega) (by unfold OwG9; omega), fun i _ => z2 _ _ (by decide) (by decide) (by decide) (by unfold OwI9 Dy; omega) (by unfold OwG9; omega), fun i hi => z2 _ _ (by decide) (by decide) (by decide) (by unfold OwI9 Dy; omega) (by unfold OwG9; omega), fun i _ => z2 _ _ (by decide) (by decide) (by decide) (by unfold OwI9 Dy; omega) (by unfold OwG9; omega), fun i hi => z2 _ _ (by decide) (by decide) (by decide) (by unfold OwI9 Dy; omega) (by unfold OwG9; omega)⟩
  have w2 : WF μ2 := ⟨z2 _ _ (by decide) (by decide) (by decide) (by unfold OwI9 Dy; omega) (by unfold OwG9; omega), fun i => z2 _ _ (by decide) (by decide) (by decide) (by unfold OwI9 Dy; omega) (by unfold OwG9; omega)⟩
  have lp := bl_pa (P := P) hP5.2
  have ln := bl_no (N := N) hN3.2
  refine li_45 (R1 := 590) (R2 := 1360000) (X := fun _ _ => 0) (W := fun _ _ => 0) (by omega) hP5.2 hN3.2 (fun μ3 c3 cv3 rc3 rs3 hL3 hw3 b1 b2 => ?_) 0 (Nat.zero_le _) μ2 _ _ _ _ ⟨L2, M2, sc2⟩ w2 (by omega) (by omega)
  refine li_77 (R1 := 577) (R2 := 1323900) (X := fun _ _ => 0) (W := fun _ _ => 0) (by omega) hP5.2 hN3.2 hLs (fun μ4 c4 cv4 rc4 rs4 R hR1 hR8 hL4 hw4 b1 b2 => ?_) 0 (Nat.zero_le _) μ3 _ _ _ _ (by show LsT μ3 P N 0 0 _ _ _ _ (flT (fl paT P) ++ []) Ls; rw [List.append_nil]; exact hL3) hw3 (by omega) (by omega)
  refine li_124 (R1 := 480) (R2 := 1035080) (W := fun _ _ => 0) (by omega) hP5.1 hP5.2 hN3.2 hR8 hLs (fun μ5 c5 cv5 rc5 rs5 F G H k hO hk hL5 hw5 b1 b2 => ?_) 0 (Nat.zero_le _) μ4 _ _ _ _ (fun _ => 0) (fun _ => 0) (fun _ => 0) (fun r hr => absurd hr (Nat.not_lt_zero _)) ⟨hL4.1.cg (fun k hk => absurd hk (Nat.not_lt_zero _)) (fun _ _ _ _ => rfl), by show Mb μ4 _ _ ((flT (fl paT P) ++ flT (fl noT N)) ++ []); rw [List.append_nil]; exact hL4.2.1, hL4.2.2⟩ hw4 (by omega) (by omega)
  have lr := bl_rd (R := R) (F := F) (G := G) (H := H) hR8 (fun i hi => by obtain ⟨q1, q2, -, -, q5⟩ := hO i hi; exact ⟨by omega, by omega, q5⟩)
  refine li_337 (by omega) hP5.1 hP5.2 hN3.1 hN3.2 hR1 hR8 hLs (T0 := (flT (fl paT P) ++ flT (fl noT N)) ++ flT (fl (rdT F G H) R)) (by rw [List.length_append, List.length_append]; omega) (fun μ6 c6 cv6 W O hO10 hB hL6 hw6 => ?_) k μ5 c5 cv5 rc5 rs5 0 (fun _ _ => 0) (by omega) (fun i hi => absurd hi (Nat.not_lt_zero _)) (by show LsT μ5 P N R 0 _ _ _ _ (((flT (fl paT P) ++ flT (fl noT N)) ++ flT (fl (rdT F G H) R)) ++ []) Ls; rw [List.append_nil]; exact hL5) hw5 (by omega) (by omega)
  refine hQ μ6 c6 cv6 P N R O F G H W ⟨⟨⟨by omega, hP5.2⟩, hN3, ⟨hR1, hR8⟩, hO10, hO, hB⟩, ?_, hw6⟩ hP5.1
  have e : flT (plT P N R O F G H W) = ((flT (fl paT P) ++ flT (fl noT N)) ++ flT (fl (rdT F G H) R)) ++ flT (fl (fun k => orT (W k)) O) := by
    unfold plT
    rw [flT_app, flT_app, flT_app]; simp only [List.append_assoc]
  rw [e]; exact hL6
end LI7
