/-! a board is made: it is cleared before all stands -/
def BdS (b : Nat) (μ : Mu) : Prop := mS μ (hd 35 b) = (1, 1) ∧ mS μ (hd 36 b) = (2, 5) ∧ mS μ (hd 37 b) = (2, 30) ∧ mS μ (hd 38 b) = (5, 60) ∧ gR μ (hd 35 b) 0 = some (hd 36 b) ∧ gR μ (hd 35 b) 1 = some (hd 37 b) ∧ gR μ (hd 35 b) 2 = some (hd 38 b)
set_option maxHeartbeats 4000000 in
theorem g9_Bd_clear_0 {d rc rs : Nat} {Q : Option Value → Mu → Prop} {μ : Mu} {i0 : Nat} (hD : 1 ≤ d) (hB : BdS i0 μ)
    (hF : Wx K_Bd_clear d rc rs Q 2 [(0, .ref (hd 35 i0)), (1, .int 0)] [] μ) : Wx K_Bd_clear d rc rs Q 0 [(0, .ref (hd 35 i0))] [] μ := by
  refine Wa.iconst (v := 0) d_Bd_clear_0 rfl ?_
  refine Wa.istore_n (i := 1) (L' := [(1, .int 0), (0, .ref (hd 35 i0))]) d_Bd_clear_1 rfl (by decide) rfl ?_
  exact Wa.loc [1, 0] rfl hF
set_option maxHeartbeats 4000000 in
theorem g9_Bd_clear_2 {d rc rs : Nat} {Q : Option Value → Mu → Prop} {μ : Mu} {i0 : Nat} {x1 : Int32} (hD : 1 ≤ d) (hB : BdS i0 μ)
    (hF : (((nI 5) ≤ x1 → Wx K_Bd_clear d rc rs Q 26 [(0, .ref (hd 35 i0)), (1, .int 0)] [] μ) ∧ (¬ (nI 5) ≤ x1 → (vp_in x1 5 ∧ Wx K_Bd_clear d rc rs Q 2 [(0, .ref (hd 35 i0)), (1, .int (x1 + 1))] [] (setI μ (hd 36 i0) x1.toNatClampNeg 0))))) : Wx K_Bd_clear d rc rs Q 2 [(0, .ref (hd 35 i0)), (1, .int x1)] [] μ := by
  refine Wa.iload_n (j := 1) d_Bd_clear_2 rfl ?_
  refine Wa.aload_n (j := 0) d_Bd_clear_3 rfl ?_
  refine Wx.getR 1 0 d_Bd_clear_4 f_Bd_0 rfl fl_Bd_9 (hB.1) (hB.2.2.2.2.1) ?_
  refine Wa.alen d_Bd_clear_7 (hB.2.1) (by decide) ?_
  refine Wa.icmp_ge 24 d_Bd_clear_8 (by decide) (fun hb => ?_) (fun hb => ?_)
  · have hF := hF.1 hb
    refine Wa.iconst (v := 0) d_Bd_clear_24 rfl ?_
    refine Wa.istore_n (i := 1) (L' := [(1, .int 0), (0, .ref (hd 35 i0))]) d_Bd_clear_25 rfl (by decide) rfl ?_
    exact Wa.loc [1, 0] rfl hF
  · have hF := hF.2 hb
    refine Wa.aload_n (j := 0) d_Bd_clear_11 rfl ?_
    refine Wx.getR 1 0 d_Bd_clear_12 f_Bd_0 rfl fl_Bd_9 (hB.1) (hB.2.2.2.2.1) ?_
    refine Wa.iload_n (j := 1) d_Bd_clear_15 rfl ?_
    refine Wa.iconst (v := 0) d_Bd_clear_16 rfl ?_
    have hc1 := hF.1
    have hF := hF.2
    have hlhc1 := vp_in_lt hc1
    refine Wa.iast d_Bd_clear_17 w_36 (hB.2.1) hc1 ?_
    refine Wa.iinc (i := 1) (j := 1) (v := (x1 + 1)) (L' := [(1, .int (x1 + 1)), (0, .ref (hd 35 i0))]) d_Bd_clear_18 rfl rfl (by decide) rfl ?_
    refine Wa.goto 2 d_Bd_clear_21 (by decide) ?_
    exact Wa.loc [1, 0] rfl hF
set_option maxHeartbeats 4000000 in
theorem g9_Bd_clear_26 {d rc rs : Nat} {Q : Option Value → Mu → Prop} {μ : Mu} {i0 : Nat} {x1 : Int32} (hD : 1 ≤ d) (hB : BdS i0 μ)
    (hF : (((nI 30) ≤ x1 → Wx K_Bd_clear d rc rs Q 50 [(0, .ref (hd 35 i0)), (1, .int 0)] [] μ) ∧ (¬ (nI 30) ≤ x1 → (vp_in x1 30 ∧ Wx K_Bd_clear d rc rs Q 26 [(0, .ref (hd 35 i0)), (1, .int (x1 + 1))] [] (setI μ (hd 37 i0) x1.toNatClampNeg (-1)))))) : Wx K_Bd_clear d rc rs Q 26 [(0, .ref (hd 35 i0)), (1, .int x1)] [] μ := by
  refine Wa.iload_n (j := 1) d_Bd_clear_26 rfl ?_
  refine Wa.aload_n (j := 0) d_Bd_clear_27 rfl ?_
  refine Wx.getR 1 1 d_Bd_clear_28 f_Bd_1 rfl fl_Bd_15 (hB.1) (hB.2.2.2.2.2.1) ?_
  refine Wa.alen d_Bd_clear_31 (hB.2.2.1) (by decide) ?_
  refine Wa.icmp_ge 48 d_Bd_clear_32 (by decide) (fun hb => ?_) (fun hb => ?_)
  · have hF := hF.1 hb
    refine Wa.iconst (v := 0) d_Bd_clear_48 rfl ?_
    refine Wa.istore_n (i := 1) (L' := [(1, .int 0), (0, .ref (hd 35 i0))]) d_Bd_clear_49 rfl (by decide) rfl ?_
    exact Wa.loc [1, 0] rfl hF
  · have hF := hF.2 hb
    refine Wa.aload_n (j := 0) d_Bd_clear_35 rfl ?_
    refine Wx.getR 1 1 d_Bd_clear_36 f_Bd_1 rfl fl_Bd_15 (hB.1) (hB.2.2.2.2.2.1) ?_
    refine Wa.iload_n (j := 1) d_Bd_clear_39 rfl ?_
    refine Wa.iconst (v := (-1)) d_Bd_clear_40 rfl ?_
    have hc1 := hF.1
    have hF := hF.2
    have hlhc1 := vp_in_lt hc1
    refine Wa.iast d_Bd_clear_41 w_37 (hB.2.2.1) hc1 ?_
    refine Wa.iinc (i := 1) (j := 1) (v := (x1 + 1)) (L' := [(1, .int (x1 + 1)), (0, .ref (hd 35 i0))]) d_Bd_clear_42 rfl rfl (by decide) rfl ?_
    refine Wa.goto 26 d_Bd_clear_45 (by decide) ?_
    exact Wa.loc [1, 0] rfl hF
set_option maxHeartbeats 4000000 in
theorem g9_Bd_clear_50 {d rc rs : Nat} {Q : Option Value → Mu → Prop} {μ : Mu} {i0 : Nat} {x1 : Int32} (hD : 1 ≤ d) (hB : BdS i0 μ)
    (hF : (((nI 60) ≤ x1 → Q none (setI μ (hd 35 i0) 3 0)) ∧ (¬ (nI 60) ≤ x1 → (vp_in x1 60 ∧ Wx K_Bd_clear d rc rs Q 50 [(0, .ref (hd 35 i0)), (1, .int (x1 + 1))] [] (setI μ (hd 38 i0) x1.toNatClampNeg (vp_nar .boolean 0)))))) : Wx K_Bd_clear d rc rs Q 50 [(0, .ref (hd 35 i0)), (1, .int x1)] [] μ := by
  refine Wa.iload_n (j := 1) d_Bd_clear_50 rfl ?_
  refine Wa.aload_n (j := 0) d_Bd_clear_51 rfl ?_
  refine Wx.getR 1 2 d_Bd_clear_52 f_Bd_2 rfl fl_Bd_18 (hB.1) (hB.2.2.2.2.2.2) ?_
  refine Wa.alen d_Bd_clear_55 (hB.2.2.2.1) (by decide) ?_
  refine Wa.icmp_ge 72 d_Bd_clear_56 (by decide) (fun hb => ?_) (fun hb => ?_)
  · have hF := hF.1 hb
    refine Wa.aload_n (j := 0) d_Bd_clear_72 rfl ?_
    refine Wa.iconst (v := 0) d_Bd_clear_73 rfl ?_
    refine Wx.putI 1 3 d_Bd_clear_74 f_Bd_3 ok_Bd fl_Bd_22 (Or.inl rfl) w_35 (hB.1) ?_
    exact Wx.retv d_Bd_clear_77 rfl hF
  · have hF := hF.2 hb
    refine Wa.aload_n (j := 0) d_Bd_clear_59 rfl ?_
    refine Wx.getR 1 2 d_Bd_clear_60 f_Bd_2 rfl fl_Bd_18 (hB.1) (hB.2.2.2.2.2.2) ?_
    refine Wa.iload_n (j := 1) d_Bd_clear_63 rfl ?_
    refine Wa.iconst (v := 0) d_Bd_clear_64 rfl ?_
    have hc1 := hF.1
    have hF := hF.2
    have hlhc1 := vp_in_lt hc1
    refine Wa.zast d_Bd_clear_65 w_38 (hB.2.2.2.1) hc1 ?_
    refine Wa.iinc (i := 1) (j := 1) (v := (x1 + 1)) (L' := [(1, .int (x1 + 1)), (0, .ref (hd 35 i0))]) d_Bd_clear_66 rfl rfl (by decide) rfl ?_
    refine Wa.goto 50 d_Bd_clear_69 (by decide) ?_
    exact Wa.loc [1, 0] rfl hF
theorem c9_Bd_clear {d rc rs : Nat} {Q : Option Value → Mu → Prop} {μ : Mu} {b : Nat} (hD : 1 ≤ d) (hS : BdS b μ) (hQ : ∀ μ', Fr (OwBd b) μ μ' → mR μ' = mR μ → BdS b μ' → (∀ p, p < 5 → mI μ' (hd 36 b) p = 0) → (∀ k, k < 30 → mI μ' (hd 37 b) k = -1) → (∀ s, s < 60 → mI μ' (hd 38 b) s = 0) → mI μ' (hd 35 b) 3 = 0 → Q none μ') : Call CT ST K_Bd_clear d rc rs [.ref (hd 35 b)] μ (fun r μ' => BdS b μ' ∧ Q r μ') := by
  have k50 : ∀ s, s ≤ 60 → ∀ μ', Fr (OwBd b) μ μ' → mR μ' = mR μ → BdS b μ' → (∀ p, p < 5 → mI μ' (hd 36 b) p = 0) → (∀ k, k < 30 → mI μ' (hd 37 b) k = -1) → (∀ j, j < s → mI μ' (hd 38 b) j = 0) → Wx K_Bd_clear d rc rs (fun r μ' => BdS b μ' ∧ Q r μ') 50 [(0, .ref (hd 35 b)), (1, .int (nI s))] [] μ' := by
    refine up_loop 60 (fun μ' f1 f2 f3 g6 g7 g8 => ?_) (fun s hs ih μ' f1 f2 f3 g6 g7 g8 => ?_)
    · have hS1 : BdS b (setI μ' (hd 35 b) 3 0) := f3
      refine g9_Bd_clear_50 hD f3 ⟨fun _ => ⟨hS1, hQ _ (f1.setI (by decide) ⟨by decide, rfl⟩) f2 hS1 (fun p hp => ?_) (fun k hk => ?_) (fun s hs => ?_) rd_eq⟩, fun h => absurd (Int32.le_refl _) h⟩
      · rw [rd_ne (by decide) (by decide) (by decide)]; exact g6 p hp
      · rw [rd_ne (by decide) (by decide) (by decide)]; exact g7 k hk
      · rw [rd_ne (by decide) (by decide) (by decide)]; exact g8 s hs
    · refine g9_Bd_clear_50 hD f3 ⟨fun h => absurd h (nI_ge hs (by decide)), fun _ => ⟨vp_in_nI hs (by decide), ?_⟩⟩
      rw [nI_clamp (by omega), nI_1]
      have hS1 : BdS b (setI μ' (hd 38 b) s (vp_nar .boolean 0)) := f3
      refine ih _ (f1.setI (by decide) ⟨by decide, rfl⟩) f2 hS1 (fun p hp => ?_) (fun k hk => ?_) (fun j hj => ?_)
      · rw [rd_ne (by decide) (by decide) (by decide)]; exact g6 p hp
      · rw [rd_ne (by decide) (by decide) (by decide)]; exact g7 k hk
      · by_cases z : j = s
        · rw [z, rd_eq]; rfl
        · rw [rd_k z]; exact g8 j (by omega)
  have k26 : ∀ s, s ≤ 30 → ∀ μ', Fr (OwBd b) μ μ' → mR μ' = mR μ → BdS b μ' → (∀ p, p < 5 → mI μ' (hd 36 b) p = 0) → (∀ k, k < s → mI μ' (hd 37 b) k = -1) → Wx K_Bd_clear d rc rs (fun r μ' => BdS b μ' ∧ Q r μ') 26 [(0, .ref (hd 35 b)), (1, .int (nI s))] [] μ' := by
    refine up_loop 30 (fun μ' f1 f2 f3 g6 g7 => ?_) (fun s hs ih μ' f1 f2 f3 g6 g7 => ?_)
    · exact g9_Bd_clear_26 hD f3 ⟨fun _ => k50 0 (by decide) μ' f1 f2 f3 g6 g7 (fun j hj => absurd hj (Nat.not_lt_zero _)), fun h => absurd (Int32.le_refl _) h⟩
    · refine g9_Bd_clear_26 hD f3 ⟨fun h => absurd h (nI_ge hs (by decide)), fun _ => ⟨vp_in_nI hs (by decide), ?_⟩⟩
      rw [nI_clamp (by omega), nI_1]
      have hS1 : BdS b (setI μ' (hd 37 b) s (-1)) := f3
      refine ih _ (f1.setI (by decide) ⟨by decide, rfl⟩) f2 hS1 (fun p hp => ?_) (fun j hj => ?_)
      · rw [rd_ne (by decide) (by decide) (by decide)]; exact g6 p hp
      · by_cases z : j = s
        · rw [z, rd_eq]
        · rw [rd_k z]; exact g7 j (by omega)
  have k2 : ∀ s, s ≤ 5 → ∀ μ', Fr (OwBd b) μ μ' → mR μ' = mR μ → BdS b μ' → (∀ p, p < s → mI μ' (hd 36 b) p = 0) → Wx K_Bd_clear d rc rs (fun r μ' => BdS b μ' ∧ Q r μ') 2 [(0, .ref (hd 35 b)), (1, .int (nI s))] [] μ' := by
    refine up_loop 5 (fun μ' f1 f2 f3 g6 => ?_) (fun s hs ih μ' f1 f2 f3 g6 => ?_)
    · exact g9_Bd_clear_2 hD f3 ⟨fun _ => k26 0 (by decide) μ' f1 f2 f3 g6 (fun j hj => absurd hj (Nat.not_lt_zero _)), fun h => absurd (Int32.le_refl _) h⟩
    · refine g9_Bd_clear_2 hD f3 ⟨fun h => absurd h (nI_ge hs (by decide)), fun _ => ⟨vp_in_nI hs (by decide), ?_⟩⟩
      rw [nI_clamp (by omega), nI_1]
      have hS1 : BdS b (setI μ' (hd 36 b) s 0) := f3
      refine ih _ (f1.setI (by decide) ⟨by decide, rfl⟩) f2 hS1 (fun j hj => ?_)
      by_cases z : j = s
      · rw [z, rd_eq]
      · rw [rd_k z]; exact g6 j (by omega)
  exact Call.of (by decide +kernel) rfl rfl (Nat.le_of_ble_eq_true rfl) rfl (fun _ => g9_Bd_clear_0 hD hS (k2 0 (by decide) μ Fr.rf rfl hS (fun j hj => absurd hj (Nat.not_lt_zero _))))
theorem c_Bd_init {d : Nat} {Q : Option Value → Mu → Prop} {μ : Mu} {i : Nat} (hD : 2 ≤ d) (hs : mS μ (hd 35 i) = (1, 1)) (hf0 : mS μ (hd 36 i) = (0, 0)) (hf1 : mS μ (hd 37 i) = (0, 0)) (hf2 : mS μ (hd 38 i) = (0, 0)) (hQ : ∀ μ', FrS (OwBd i) μ μ' → BdS i μ' → Q none μ') : Call CT ST K_Bd_init d 3 95 [.ref (hd 35 i)] μ Q := by
  refine Call.of (by decide +kernel) rfl rfl (Nat.le_of_ble_eq_true rfl) rfl (fun _ => ?_)
  have hD1 : 1 ≤ d := by omega
  refine Wa.aload_n (j := 0) d_Bd_init_0 rfl ?_
  refine Wa.objInit d_Bd_init_1 ol_Bd_3 oi_1 oi_2 (Nat.le_of_ble_eq_true rfl) hD1 ?_
  refine Wa.aload_n (j := 0) d_Bd_init_4 rfl ?_
  refine Wa.iconst (v := 5) d_Bd_init_5 rfl ?_
  refine Wa.newarr (hd 36 i) 2 5 d_Bd_init_6 ac_int rfl (by decide) (by decide) (by decide) (by decide) (by decide) (by decide) hf0 w_36 ?_
  refine Wx.putR 1 0 d_Bd_init_8 f_Bd_0 rfl ok_Bd fl_Bd_9 (Or.inr ⟨rfl, rfl, rfl⟩) w_35 (by simp (disch := decide) only [S_I, S_R, S_ne, alloc_S, S_i, R_I, R_eq, R_k, R_ne, R_mk, R_mkn, I_R, I_mk, I_mkn, rd_eq, rd_k, rd_ne]; exact hs) ?_
  refine Wa.aload_n (j := 0) d_Bd_init_11 rfl ?_
  refine Wa.bipush (v := 30) d_Bd_init_12 rfl ?_
  refine Wa.newarr (hd 37 i) 2 30 d_Bd_init_14 ac_int rfl (by decide) (by decide) (by decide) (by decide) (by decide) (by decide) (by simp (disch := decide) only [S_I, S_R, S_ne, alloc_S, S_i, R_I, R_eq, R_k, R_ne, R_mk, R_mkn, I_R, I_mk, I_mkn, rd_eq, rd_k, rd_ne]; exact hf1) w_37 ?_
  refine Wx.putR 1 1 d_Bd_init_16 f_Bd_1 rfl ok_Bd fl_Bd_15 (Or.inr ⟨rfl, rfl, rfl⟩) w_35 (by simp (disch := decide) only [S_I, S_R, S_ne, alloc_S, S_i, R_I, R_eq, R_k, R_ne, R_mk, R_mkn, I_R, I_mk, I_mkn, rd_eq, rd_k, rd_ne]; exact hs) ?_
  refine Wa.aload_n (j := 0) d_Bd_init_19 rfl ?_
  refine Wa.bipush (v := 60) d_Bd_init_20 rfl ?_
  refine Wa.newarr (hd 38 i) 5 60 d_Bd_init_22 ac_boolean rfl (by decide) (by decide) (by decide) (by decide) (by decide) (by decide) (by simp (disch := decide) only [S_I, S_R, S_ne, alloc_S, S_i, R_I, R_eq, R_k, R_ne, R_mk, R_mkn, I_R, I_mk, I_mkn, rd_eq, rd_k, rd_ne]; exact hf2) w_38 ?_
  refine Wx.putR 1 2 d_Bd_init_24 f_Bd_2 rfl ok_Bd fl_Bd_18 (Or.inr ⟨rfl, rfl, rfl⟩) w_35 (by simp (disch := decide) only [S_I, S_R, S_ne, alloc_S, S_i, R_I, R_eq, R_k, R_ne, R_mk, R_mkn, I_R, I_mk, I_mkn, rd_eq, rd_k, rd_ne]; exact hs) ?_
  refine Wa.aload_n (j := 0) d_Bd_init_27 rfl ?_
  refine Wa.iconst (v := 0) d_Bd_init_28 rfl ?_
  refine Wx.putI 1 3 d_Bd_init_29 f_Bd_3 ok_Bd fl_Bd_22 (Or.inl rfl) w_35 (by simp (disch := decide) only [S_I, S_R, S_ne, alloc_S, S_i, R_I, R_eq, R_k, R_ne, R_mk, R_mkn, I_R, I_mk, I_mkn, rd_eq, rd_k, rd_ne]; exact hs) ?_
  refine Wa.aload_n (j := 0) d_Bd_init_32 rfl ?_
  have fr : FrS (OwBd i) μ (setI (setR (mkA (setR (mkA (setR (mkA μ (hd 36 i) (2, 5)) (hd 35 i) 0 (hd 36 i)) (hd 37 i) (2, 30)) (hd 35 i) 1 (hd 37 i)) (hd 38 i) (5, 60)) (hd 35 i) 2 (hd 38 i)) (hd 35 i) 3 0) := ((((((FrS.rf.mk (by decide) (by unfold OwBd; omega)).sR (by decide) (by unfold OwBd; omega)).mk (by decide) (by unfold OwBd; omega)).sR (by decide) (by unfold OwBd; omega)).mk (by decide) (by unfold OwBd; omega)).sR (by decide) (by unfold OwBd; omega)).sI (by decide) (by unfold OwBd; omega)
  have hB : BdS i (setI (setR (mkA (setR (mkA (setR (mkA μ (hd 36 i) (2, 5)) (hd 35 i) 0 (hd 36 i)) (hd 37 i) (2, 30)) (hd 35 i) 1 (hd 37 i)) (hd 38 i) (5, 60)) (hd 35 i) 2 (hd 38 i)) (hd 35 i) 3 0) := by
    refine ⟨by simp (disch := decide) only [S_I, S_R, S_ne, alloc_S, S_i, R_I, R_eq, R_k, R_ne, R_mk, R_mkn, I_R, I_mk, I_mkn, rd_eq, rd_k, rd_ne]; exact hs, by simp (disch := decide) only [S_I, S_R, S_ne, alloc_S, S_i, R_I, R_eq, R_k, R_ne, R_mk, R_mkn, I_R, I_mk, I_mkn, rd_eq, rd_k, rd_ne], by simp (disch := decide) only [S_I, S_R, S_ne, alloc_S, S_i, R_I, R_eq, R_k, R_ne, R_mk, R_mkn, I_R, I_mk, I_mkn, rd_eq, rd_k, rd_ne], by simp (disch := decide) only [S_I, S_R, S_ne, alloc_S, S_i, R_I, R_eq, R_k, R_ne, R_mk, R_mkn, I_R, I_mk, I_mkn, rd_eq, rd_k, rd_ne], ?_, ?_, ?_⟩
    · rw [gR_rw w_35]; simp (disch := decide) only [S_I, S_R, S_ne, alloc_S, S_i, R_I, R_eq, R_k, R_ne, R_mk, R_mkn, I_R, I_mk, I_mkn, rd_eq, rd_k, rd_ne]
    · rw [gR_rw w_35]; simp (disch := decide) only [S_I, S_R, S_ne, alloc_S, S_i, R_I, R_eq, R_k, R_ne, R_mk, R_mkn, I_R, I_mk, I_mkn, rd_eq, rd_k, rd_ne]
    · rw [gR_rw w_35]; simp (disch := decide) only [S_I, S_R, S_ne, alloc_S, S_i, R_I, R_eq, R_k, R_ne, R_mk, R_mkn, I_R, I_mk, I_mkn, rd_eq, rd_k, rd_ne]
  generalize setI (setR (mkA (setR (mkA (setR (mkA μ (hd 36 i) (2, 5)) (hd 35 i) 0 (hd 36 i)) (hd 37 i) (2, 30)) (hd 35 i) 1 (hd 37 i)) (hd 38 i) (5, 60)) (hd 35 i) 2 (hd 38 i)) (hd 35 i) 3 0 = μ1 at fr hB
  refine Wa.callV (q := E_Bd) (As := []) 1 (d - 1) 0 0 d_Bd_init_33 mok_Bd_clear vl_Bd_26 rfl rfl rfl (Nat.le_of_ble_eq_true rfl) (by omega) (Nat.zero_le _) (Nat.zero_le _) hB.1 (c9_Bd_clear (Q := fun r μ' => r = none ∧ FrS (OwBd i) μ μ') (by omega) hB (fun μ' f _ _ _ _ _ _ => ⟨rfl, fr.trans (FrS.of f)⟩)) (fun r μ' h => ?_)
  obtain ⟨h1, rfl, h2⟩ := h
  exact Wx.retv d_Bd_init_36 rfl (hQ μ' h2 h1)
