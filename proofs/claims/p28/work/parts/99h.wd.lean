/-! a world is made -/
def OwWi (w κ i : Nat) : Prop := ((κ = 29 ∨ κ = 30 ∨ κ = 31 ∨ κ = 32) ∧ i = w) ∨ ((κ = 33 ∨ κ = 34) ∧ 60 * w ≤ i ∧ i < 60 * w + 60) ∨ ((35 ≤ κ ∧ κ ≤ 38) ∧ 5 * w ≤ i ∧ i < 5 * w + 5) ∨ ((κ = 27 ∨ κ = 28) ∧ 8 * w ≤ i ∧ i < 8 * w + 8)
def WdF (w p : Nat) (μ : Mu) : Prop := (mS μ (hd 29 w) = (1, 10) ∧ mS μ (hd 30 w) = (14, 60) ∧ mS μ (hd 31 w) = (7, 5) ∧ mS μ (hd 32 w) = (13, 8)) ∧ (mR μ (hd 29 w) 0 = some (hd 30 w) ∧ mR μ (hd 29 w) 1 = some (hd 31 w) ∧ mR μ (hd 29 w) 2 = some (hd 32 w) ∧ mR μ (hd 29 w) 3 = some (hd 18 p)) ∧ (mI μ (hd 29 w) 4 = 0 ∧ mI μ (hd 29 w) 5 = 0 ∧ mI μ (hd 29 w) 6 = 0 ∧ mI μ (hd 29 w) 7 = 0) ∧ (∀ m, m < 60 → ShF (60 * w + m) μ ∧ mR μ (hd 30 w) m = some (hd 33 (60 * w + m))) ∧ (∀ m, m < 5 → BdF (5 * w + m) μ ∧ mR μ (hd 31 w) m = some (hd 35 (5 * w + m))) ∧ ∀ m, m < 8 → RdF (8 * w + m) μ ∧ mR μ (hd 32 w) m = some (hd 27 (8 * w + m))
theorem WdF.fr {w p : Nat} {μ μ' : Mu} {own : Nat → Nat → Prop} (h : WdF w p μ) (f : FrS own μ μ') (ho : ∀ κ i, OwWi w κ i → ¬ own κ i) : WdF w p μ' := by
  obtain ⟨⟨a1, a2, a3, a4⟩, ⟨b1, b2, b3, b4⟩, ⟨c1, c2, c3, c4⟩, g1, g2, g3⟩ := h
  have o1 : ∀ κ, 29 ≤ κ → κ ≤ 32 → ¬ own κ w := fun κ a b => ho κ w (Or.inl ⟨by omega, rfl⟩)
  have s : ∀ κ, 29 ≤ κ → κ ≤ 32 → mS μ' (hd κ w) = mS μ (hd κ w) := fun κ a b => f.S (by omega) (o1 κ a b)
  have r : ∀ κ k, 29 ≤ κ → κ ≤ 32 → mR μ' (hd κ w) k = mR μ (hd κ w) k := fun κ k a b => f.R (by omega) (o1 κ a b)
  have q : ∀ κ k, 29 ≤ κ → κ ≤ 32 → mI μ' (hd κ w) k = mI μ (hd κ w) k := fun κ k a b => f.I (by omega) (o1 κ a b)
  exact ⟨⟨(s 29 (by decide) (by decide)).trans a1, (s 30 (by decide) (by decide)).trans a2, (s 31 (by decide) (by decide)).trans a3, (s 32 (by decide) (by decide)).trans a4⟩, ⟨(r 29 _ (by decide) (by decide)).trans b1, (r 29 _ (by decide) (by decide)).trans b2, (r 29 _ (by decide) (by decide)).trans b3, (r 29 _ (by decide) (by decide)).trans b4⟩, ⟨(q 29 _ (by decide) (by decide)).trans c1, (q 29 _ (by decide) (by decide)).trans c2, (q 29 _ (by decide) (by decide)).trans c3, (q 29 _ (by decide) (by decide)).trans c4⟩, fun m hm => ⟨(g1 m hm).1.fr f (fun κ z => ho κ _ (by unfold OwWi; omega)), (r 30 _ (by decide) (by decide)).trans (g1 m hm).2⟩, fun m hm => ⟨(g2 m hm).1.fr f (fun κ a b => ho κ _ (by unfold OwWi; omega)), (r 31 _ (by decide) (by decide)).trans (g2 m hm).2⟩, fun m hm => ⟨(g3 m hm).1.fr f (fun κ z => ho κ _ (by unfold OwWi; omega)), (r 32 _ (by decide) (by decide)).trans (g3 m hm).2⟩⟩
theorem c_Wd_init {d : Nat} {Q : Option Value → Mu → Prop} {μ : Mu} {w p : Nat} (hD : 4 ≤ d) (hs : mS μ (hd 29 w) = (1, 10)) (hz : ∀ κ i, OwWi w κ i → κ ≠ 29 → mS μ (hd κ i) = (0, 0)) (hQ : ∀ μ', FrS (OwWi w) μ μ' → WdF w p μ' → Q none μ') : Call CT ST K_Wd_init d 159 1808 [.ref (hd 29 w), .ref (hd 18 p)] μ Q := by
  refine Call.of (by decide +kernel) rfl rfl (Nat.le_of_ble_eq_true rfl) rfl (fun _ => ?_)
  have z : ∀ κ, 30 ≤ κ → κ ≤ 32 → mS μ (hd κ w) = (0, 0) := fun κ a b => hz κ w (Or.inl ⟨by omega, rfl⟩) (by omega)
  refine Wa.aload_n (j := 0) d_Wd_init_0 rfl ?_
  refine Wa.objInit d_Wd_init_1 ol_Wd_3 oi_1 oi_2 (Nat.le_of_ble_eq_true rfl) (by omega) ?_
  refine Wa.aload_n (j := 0) d_Wd_init_4 rfl ?_
  refine Wa.bipush (v := 60) d_Wd_init_5 rfl ?_
  refine Wa.anew (q := E_Sh) (hd 30 w) 8 60 d_Wd_init_7 rfl cl_Wd_9 ao_Sh (by decide) (by decide) (by decide) (by decide) (by decide) (z 30 (by decide) (by decide)) w_30 ?_
  refine Wx.putR 10 0 d_Wd_init_10 f_Wd_0 rfl ok_Wd fl_Wd_11 (Or.inr ⟨rfl, rfl, rfl⟩) w_29 (by simp (disch := decide) only [S_I, S_R, S_ne, alloc_S, S_i, R_I, R_eq, R_k, R_ne, R_mk, R_mkn, I_R, I_mk, I_mkn, rd_eq, rd_k, rd_ne]; exact hs) ?_
  refine Wa.aload_n (j := 0) d_Wd_init_13 rfl ?_
  refine Wa.iconst (v := 5) d_Wd_init_14 rfl ?_
  refine Wa.anew (q := E_Bd) (hd 31 w) 1 5 d_Wd_init_15 rfl cl_Wd_17 ao_Bd (by decide) (by decide) (by decide) (by decide) (by decide) (by simp (disch := decide) only [S_I, S_R, S_ne, alloc_S, S_i, R_I, R_eq, R_k, R_ne, R_mk, R_mkn, I_R, I_mk, I_mkn, rd_eq, rd_k, rd_ne]; exact z 31 (by decide) (by decide)) w_31 ?_
  refine Wx.putR 10 1 d_Wd_init_18 f_Wd_1 rfl ok_Wd fl_Wd_19 (Or.inr ⟨rfl, rfl, rfl⟩) w_29 (by simp (disch := decide) only [S_I, S_R, S_ne, alloc_S, S_i, R_I, R_eq, R_k, R_ne, R_mk, R_mkn, I_R, I_mk, I_mkn, rd_eq, rd_k, rd_ne]; exact hs) ?_
  refine Wa.aload_n (j := 0) d_Wd_init_21 rfl ?_
  refine Wa.bipush (v := 8) d_Wd_init_22 rfl ?_
  refine Wa.anew (q := E_Rd) (hd 32 w) 7 8 d_Wd_init_24 rfl cl_Wd_23 ao_Rd (by decide) (by decide) (by decide) (by decide) (by decide) (by simp (disch := decide) only [S_I, S_R, S_ne, alloc_S, S_i, R_I, R_eq, R_k, R_ne, R_mk, R_mkn, I_R, I_mk, I_mkn, rd_eq, rd_k, rd_ne]; exact z 32 (by decide) (by decide)) w_32 ?_
  refine Wx.putR 10 2 d_Wd_init_27 f_Wd_2 rfl ok_Wd fl_Wd_25 (Or.inr ⟨rfl, rfl, rfl⟩) w_29 (by simp (disch := decide) only [S_I, S_R, S_ne, alloc_S, S_i, R_I, R_eq, R_k, R_ne, R_mk, R_mkn, I_R, I_mk, I_mkn, rd_eq, rd_k, rd_ne]; exact hs) ?_
  refine Wa.aload_n (j := 0) d_Wd_init_30 rfl ?_
  refine Wa.iconst (v := 0) d_Wd_init_31 rfl ?_
  refine Wx.putI 10 4 d_Wd_init_32 f_Wd_4 ok_Wd fl_Wd_29 (Or.inl rfl) w_29 (by simp (disch := decide) only [S_I, S_R, S_ne, alloc_S, S_i, R_I, R_eq, R_k, R_ne, R_mk, R_mkn, I_R, I_mk, I_mkn, rd_eq, rd_k, rd_ne]; exact hs) ?_
  refine Wa.aload_n (j := 0) d_Wd_init_35 rfl ?_
  refine Wa.iconst (v := 0) d_Wd_init_36 rfl ?_
  refine Wx.putI 10 5 d_Wd_init_37 f_Wd_5 ok_Wd fl_Wd_33 (Or.inl rfl) w_29 (by simp (disch := decide) only [S_I, S_R, S_ne, alloc_S, S_i, R_I, R_eq, R_k, R_ne, R_mk, R_mkn, I_R, I_mk, I_mkn, rd_eq, rd_k, rd_ne]; exact hs) ?_
  refine Wa.aload_n (j := 0) d_Wd_init_40 rfl ?_
  refine Wa.iconst (v := 0) d_Wd_init_41 rfl ?_
  refine Wx.putI 10 6 d_Wd_init_42 f_Wd_6 ok_Wd fl_Wd_36 (Or.inl rfl) w_29 (by simp (disch := decide) only [S_I, S_R, S_ne, alloc_S, S_i, R_I, R_eq, R_k, R_ne, R_mk, R_mkn, I_R, I_mk, I_mkn, rd_eq, rd_k, rd_ne]; exact hs) ?_
  refine Wa.aload_n (j := 0) d_Wd_init_45 rfl ?_
  refine Wa.iconst (v := 0) d_Wd_init_46 rfl ?_
  refine Wx.putI 10 7 d_Wd_init_47 f_Wd_7 ok_Wd fl_Wd_39 (Or.inl rfl) w_29 (by simp (disch := decide) only [S_I, S_R, S_ne, alloc_S, S_i, R_I, R_eq, R_k, R_ne, R_mk, R_mkn, I_R, I_mk, I_mkn, rd_eq, rd_k, rd_ne]; exact hs) ?_
  refine Wa.aload_n (j := 0) d_Wd_init_50 rfl ?_
  refine Wa.aload_n (j := 1) d_Wd_init_51 rfl ?_
  refine Wx.putR 10 3 d_Wd_init_52 f_Wd_3 rfl ok_Wd fl_Wd_42 (Or.inl rfl) w_29 (by simp (disch := decide) only [S_I, S_R, S_ne, alloc_S, S_i, R_I, R_eq, R_k, R_ne, R_mk, R_mkn, I_R, I_mk, I_mkn, rd_eq, rd_k, rd_ne]; exact hs) ?_
  have f2 : FrS (fun κ j => (29 ≤ κ ∧ κ ≤ 32) ∧ j = w) μ (setR (setI (setI (setI (setI (setR (mkA (setR (mkA (setR (mkA μ (hd 30 w) (14, 60)) (hd 29 w) 0 (hd 30 w)) (hd 31 w) (7, 5)) (hd 29 w) 1 (hd 31 w)) (hd 32 w) (13, 8)) (hd 29 w) 2 (hd 32 w)) (hd 29 w) 4 0) (hd 29 w) 5 0) (hd 29 w) 6 0) (hd 29 w) 7 0) (hd 29 w) 3 (hd 18 p)) := ((((((((((FrS.rf.mk (by decide) (by omega)).sR (by decide) (by omega)).mk (by decide) (by omega)).sR (by decide) (by omega)).mk (by decide) (by omega)).sR (by decide) (by omega)).sI (by decide) (by omega)).sI (by decide) (by omega)).sI (by decide) (by omega)).sI (by decide) (by omega)).sR (by decide) (by omega)
  have g29 : mS (setR (setI (setI (setI (setI (setR (mkA (setR (mkA (setR (mkA μ (hd 30 w) (14, 60)) (hd 29 w) 0 (hd 30 w)) (hd 31 w) (7, 5)) (hd 29 w) 1 (hd 31 w)) (hd 32 w) (13, 8)) (hd 29 w) 2 (hd 32 w)) (hd 29 w) 4 0) (hd 29 w) 5 0) (hd 29 w) 6 0) (hd 29 w) 7 0) (hd 29 w) 3 (hd 18 p)) (hd 29 w) = (1, 10) := by simp (disch := decide) only [S_I, S_R, S_ne, alloc_S, S_i, R_I, R_eq, R_k, R_ne, R_mk, R_mkn, I_R, I_mk, I_mkn, rd_eq, rd_k, rd_ne]; exact hs
  have g30 : mS (setR (setI (setI (setI (setI (setR (mkA (setR (mkA (setR (mkA μ (hd 30 w) (14, 60)) (hd 29 w) 0 (hd 30 w)) (hd 31 w) (7, 5)) (hd 29 w) 1 (hd 31 w)) (hd 32 w) (13, 8)) (hd 29 w) 2 (hd 32 w)) (hd 29 w) 4 0) (hd 29 w) 5 0) (hd 29 w) 6 0) (hd 29 w) 7 0) (hd 29 w) 3 (hd 18 p)) (hd 30 w) = (14, 60) := by simp (disch := decide) only [S_I, S_R, S_ne, alloc_S, S_i, R_I, R_eq, R_k, R_ne, R_mk, R_mkn, I_R, I_mk, I_mkn, rd_eq, rd_k, rd_ne]
  have g31 : mS (setR (setI (setI (setI (setI (setR (mkA (setR (mkA (setR (mkA μ (hd 30 w) (14, 60)) (hd 29 w) 0 (hd 30 w)) (hd 31 w) (7, 5)) (hd 29 w) 1 (hd 31 w)) (hd 32 w) (13, 8)) (hd 29 w) 2 (hd 32 w)) (hd 29 w) 4 0) (hd 29 w) 5 0) (hd 29 w) 6 0) (hd 29 w) 7 0) (hd 29 w) 3 (hd 18 p)) (hd 31 w) = (7, 5) := by simp (disch := decide) only [S_I, S_R, S_ne, alloc_S, S_i, R_I, R_eq, R_k, R_ne, R_mk, R_mkn, I_R, I_mk, I_mkn, rd_eq, rd_k, rd_ne]
  have g32 : mS (setR (setI (setI (setI (setI (setR (mkA (setR (mkA (setR (mkA μ (hd 30 w) (14, 60)) (hd 29 w) 0 (hd 30 w)) (hd 31 w) (7, 5)) (hd 29 w) 1 (hd 31 w)) (hd 32 w) (13, 8)) (hd 29 w) 2 (hd 32 w)) (hd 29 w) 4 0) (hd 29 w) 5 0) (hd 29 w) 6 0) (hd 29 w) 7 0) (hd 29 w) 3 (hd 18 p)) (hd 32 w) = (13, 8) := by simp (disch := decide) only [S_I, S_R, S_ne, alloc_S, S_i, R_I, R_eq, R_k, R_ne, R_mk, R_mkn, I_R, I_mk, I_mkn, rd_eq, rd_k, rd_ne]
  have r0 : mR (setR (setI (setI (setI (setI (setR (mkA (setR (mkA (setR (mkA μ (hd 30 w) (14, 60)) (hd 29 w) 0 (hd 30 w)) (hd 31 w) (7, 5)) (hd 29 w) 1 (hd 31 w)) (hd 32 w) (13, 8)) (hd 29 w) 2 (hd 32 w)) (hd 29 w) 4 0) (hd 29 w) 5 0) (hd 29 w) 6 0) (hd 29 w) 7 0) (hd 29 w) 3 (hd 18 p)) (hd 29 w) 0 = some (hd 30 w) := by simp (disch := decide) only [S_I, S_R, S_ne, alloc_S, S_i, R_I, R_eq, R_k, R_ne, R_mk, R_mkn, I_R, I_mk, I_mkn, rd_eq, rd_k, rd_ne]
  have r1 : mR (setR (setI (setI (setI (setI (setR (mkA (setR (mkA (setR (mkA μ (hd 30 w) (14, 60)) (hd 29 w) 0 (hd 30 w)) (hd 31 w) (7, 5)) (hd 29 w) 1 (hd 31 w)) (hd 32 w) (13, 8)) (hd 29 w) 2 (hd 32 w)) (hd 29 w) 4 0) (hd 29 w) 5 0) (hd 29 w) 6 0) (hd 29 w) 7 0) (hd 29 w) 3 (hd 18 p)) (hd 29 w) 1 = some (hd 31 w) := by simp (disch := decide) only [S_I, S_R, S_ne, alloc_S, S_i, R_I, R_eq, R_k, R_ne, R_mk, R_mkn, I_R, I_mk, I_mkn, rd_eq, rd_k, rd_ne]
  have r2 : mR (setR (setI (setI (setI (setI (setR (mkA (setR (mkA (setR (mkA μ (hd 30 w) (14, 60)) (hd 29 w) 0 (hd 30 w)) (hd 31 w) (7, 5)) (hd 29 w) 1 (hd 31 w)) (hd 32 w) (13, 8)) (hd 29 w) 2 (hd 32 w)) (hd 29 w) 4 0) (hd 29 w) 5 0) (hd 29 w) 6 0) (hd 29 w) 7 0) (hd 29 w) 3 (hd 18 p)) (hd 29 w) 2 = some (hd 32 w) := by simp (disch := decide) only [S_I, S_R, S_ne, alloc_S, S_i, R_I, R_eq, R_k, R_ne, R_mk, R_mkn, I_R, I_mk, I_mkn, rd_eq, rd_k, rd_ne]
  have r3 : mR (setR (setI (setI (setI (setI (setR (mkA (setR (mkA (setR (mkA μ (hd 30 w) (14, 60)) (hd 29 w) 0 (hd 30 w)) (hd 31 w) (7, 5)) (hd 29 w) 1 (hd 31 w)) (hd 32 w) (13, 8)) (hd 29 w) 2 (hd 32 w)) (hd 29 w) 4 0) (hd 29 w) 5 0) (hd 29 w) 6 0) (hd 29 w) 7 0) (hd 29 w) 3 (hd 18 p)) (hd 29 w) 3 = some (hd 18 p) := by simp (disch := decide) only [S_I, S_R, S_ne, alloc_S, S_i, R_I, R_eq, R_k, R_ne, R_mk, R_mkn, I_R, I_mk, I_mkn, rd_eq, rd_k, rd_ne]
  have i4 : mI (setR (setI (setI (setI (setI (setR (mkA (setR (mkA (setR (mkA μ (hd 30 w) (14, 60)) (hd 29 w) 0 (hd 30 w)) (hd 31 w) (7, 5)) (hd 29 w) 1 (hd 31 w)) (hd 32 w) (13, 8)) (hd 29 w) 2 (hd 32 w)) (hd 29 w) 4 0) (hd 29 w) 5 0) (hd 29 w) 6 0) (hd 29 w) 7 0) (hd 29 w) 3 (hd 18 p)) (hd 29 w) 4 = 0 := by simp (disch := decide) only [S_I, S_R, S_ne, alloc_S, S_i, R_I, R_eq, R_k, R_ne, R_mk, R_mkn, I_R, I_mk, I_mkn, rd_eq, rd_k, rd_ne]
  have i5 : mI (setR (setI (setI (setI (setI (setR (mkA (setR (mkA (setR (mkA μ (hd 30 w) (14, 60)) (hd 29 w) 0 (hd 30 w)) (hd 31 w) (7, 5)) (hd 29 w) 1 (hd 31 w)) (hd 32 w) (13, 8)) (hd 29 w) 2 (hd 32 w)) (hd 29 w) 4 0) (hd 29 w) 5 0) (hd 29 w) 6 0) (hd 29 w) 7 0) (hd 29 w) 3 (hd 18 p)) (hd 29 w) 5 = 0 := by simp (disch := decide) only [S_I, S_R, S_ne, alloc_S, S_i, R_I, R_eq, R_k, R_ne, R_mk, R_mkn, I_R, I_mk, I_mkn, rd_eq, rd_k, rd_ne]
  have i6 : mI (setR (setI (setI (setI (setI (setR (mkA (setR (mkA (setR (mkA μ (hd 30 w) (14, 60)) (hd 29 w) 0 (hd 30 w)) (hd 31 w) (7, 5)) (hd 29 w) 1 (hd 31 w)) (hd 32 w) (13, 8)) (hd 29 w) 2 (hd 32 w)) (hd 29 w) 4 0) (hd 29 w) 5 0) (hd 29 w) 6 0) (hd 29 w) 7 0) (hd 29 w) 3 (hd 18 p)) (hd 29 w) 6 = 0 := by simp (disch := decide) only [S_I, S_R, S_ne, alloc_S, S_i, R_I, R_eq, R_k, R_ne, R_mk, R_mkn, I_R, I_mk, I_mkn, rd_eq, rd_k, rd_ne]
  have i7 : mI (setR (setI (setI (setI (setI (setR (mkA (setR (mkA (setR (mkA μ (hd 30 w) (14, 60)) (hd 29 w) 0 (hd 30 w)) (hd 31 w) (7, 5)) (hd 29 w) 1 (hd 31 w)) (hd 32 w) (13, 8)) (hd 29 w) 2 (hd 32 w)) (hd 29 w) 4 0) (hd 29 w) 5 0) (hd 29 w) 6 0) (hd 29 w) 7 0) (hd 29 w) 3 (hd 18 p)) (hd 29 w) 7 = 0 := by simp (disch := decide) only [S_I, S_R, S_ne, alloc_S, S_i, R_I, R_eq, R_k, R_ne, R_mk, R_mkn, I_R, I_mk, I_mkn, rd_eq, rd_k, rd_ne]
  generalize setR (setI (setI (setI (setI (setR (mkA (setR (mkA (setR (mkA μ (hd 30 w) (14, 60)) (hd 29 w) 0 (hd 30 w)) (hd 31 w) (7, 5)) (hd 29 w) 1 (hd 31 w)) (hd 32 w) (13, 8)) (hd 29 w) 2 (hd 32 w)) (hd 29 w) 4 0) (hd 29 w) 5 0) (hd 29 w) 6 0) (hd 29 w) 7 0) (hd 29 w) 3 (hd 18 p) = μ2 at *
  have F2 : FrS (OwWi w) μ μ2 := f2.mono (fun κ j z => by unfold OwWi; omega)
  have zR : ∀ κ i, ¬ (29 ≤ κ ∧ κ ≤ 32) → κ < 256 → OwWi w κ i → mS μ2 (hd κ i) = (0, 0) := fun κ i a c b => (f2.S c (by omega)).trans (hz κ i b (by omega))
  have gr : ∀ {μ : Mu} {k x : Nat}, mR μ (hd 29 w) k = some x → gR μ (hd 29 w) k = some x := fun h => (gR_rw w_29 _).trans h
  refine Wa.iconst (v := 0) d_Wd_init_55 rfl ?_
  refine Wa.istore_n (i := 2) d_Wd_init_56 rfl (by decide) rfl ?_
  refine Wa.loc [1, 0] rfl ?_
  refine l_WdS (rc := 36) (rs := 1015) (B := 60 * w) (μ0 := μ2) (by omega) g29 g30 (gr r0) (fun m κ hm hκ => zR κ _ (by omega) (by omega) (by unfold OwWi; omega)) (fun μ3 F3 => ?_) 60 0 _ _ μ2 rfl rfl rfl ⟨FrS.rf, rfl, fun m hm => absurd hm (Nat.not_lt_zero _), fun m κ _ hm hκ => zR κ _ (by omega) (by omega) (by unfold OwWi; omega)⟩
  obtain ⟨f3, s3, e3, -⟩ := F3
  have F3' : FrS (OwWi w) μ2 μ3 := f3.mono (fun κ j z => by
    rcases z with ⟨rfl, rfl⟩ | ⟨hk, m, hm, rfl⟩
    · unfold OwWi; omega
    · unfold OwWi; omega)
  have n3 : ∀ κ i, κ ≠ 30 → κ ≠ 33 → κ ≠ 34 → ¬ ((κ = 30 ∧ i = w) ∨ ((κ = 33 ∨ κ = 34) ∧ ∃ m, m < 60 ∧ i = 60 * w + m)) := fun κ i a b c => by omega
  refine Wa.iconst (v := 0) d_Wd_init_85 rfl ?_
  refine Wa.istore_n (i := 2) d_Wd_init_86 rfl (by decide) rfl ?_
  refine Wa.loc [1, 0] rfl ?_
  refine l_WdB (rc := 16) (rs := 520) (B := 5 * w) (μ0 := μ3) (by omega) ((f3.S (by decide) (n3 29 _ (by decide) (by decide) (by decide))).trans g29) ((f3.S (by decide) (n3 31 _ (by decide) (by decide) (by decide))).trans g31) (gr ((f3.R (by decide) (n3 29 _ (by decide) (by decide) (by decide))).trans r1)) (fun m κ hm hκ => (f3.S (by omega) (n3 κ _ (by omega) (by omega) (by omega))).trans (zR κ _ (by omega) (by omega) (by unfold OwWi; omega))) (fun μ4 F4 => ?_) 5 0 _ _ μ3 rfl rfl rfl ⟨FrS.rf, rfl, fun m hm => absurd hm (Nat.not_lt_zero _), fun m κ _ hm hκ => (f3.S (by omega) (n3 κ _ (by omega) (by omega) (by omega))).trans (zR κ _ (by omega) (by omega) (by unfold OwWi; omega))⟩
  obtain ⟨f4, s4, e4, -⟩ := F4
  have F4' : FrS (OwWi w) μ3 μ4 := f4.mono (fun κ j z => by
    rcases z with ⟨rfl, rfl⟩ | ⟨hk, m, hm, rfl⟩
    · unfold OwWi; omega
    · unfold OwWi; omega)
  have n4 : ∀ κ i, κ ≠ 31 → ¬ (35 ≤ κ ∧ κ ≤ 38) → ¬ ((κ = 31 ∧ i = w) ∨ ((κ = 35 ∨ κ = 36 ∨ κ = 37 ∨ κ = 38) ∧ ∃ m, m < 5 ∧ i = 5 * w + m)) := fun κ i a b => by omega
  refine Wa.iconst (v := 0) d_Wd_init_115 rfl ?_
  refine Wa.istore_n (i := 2) d_Wd_init_116 rfl (by decide) rfl ?_
  refine Wa.loc [1, 0] rfl ?_
  have z5 : ∀ m κ, m < 8 → (κ = 27 ∨ κ = 28) → mS μ4 (hd κ (8 * w + m)) = (0, 0) := fun m κ hm hκ => (f4.S (by omega) (n4 κ _ (by omega) (by omega))).trans ((f3.S (by omega) (n3 κ _ (by omega) (by omega) (by omega))).trans (zR κ _ (by omega) (by omega) (by unfold OwWi; omega)))
  refine l_WdR (rc := 0) (rs := 0) (B := 8 * w) (μ0 := μ4) (by omega) ((f4.S (by decide) (n4 29 _ (by decide) (by decide))).trans ((f3.S (by decide) (n3 29 _ (by decide) (by decide) (by decide))).trans g29)) ((f4.S (by decide) (n4 32 _ (by decide) (by decide))).trans ((f3.S (by decide) (n3 32 _ (by decide) (by decide) (by decide))).trans g32)) (gr ((f4.R (by decide) (n4 29 _ (by decide) (by decide))).trans ((f3.R (by decide) (n3 29 _ (by decide) (by decide) (by decide))).trans r2))) z5 (fun μ5 F5 => ?_) 8 0 _ _ μ4 rfl rfl rfl ⟨FrS.rf, rfl, fun m hm => absurd hm (Nat.not_lt_zero _), fun m κ _ hm hκ => z5 m κ hm hκ⟩
  obtain ⟨f5, s5, e5, -⟩ := F5
  have F5' : FrS (OwWi w) μ4 μ5 := f5.mono (fun κ j z => by
    rcases z with ⟨rfl, rfl⟩ | ⟨hk, m, hm, rfl⟩
    · unfold OwWi; omega
    · unfold OwWi; omega)
  have n5 : ∀ κ i, κ ≠ 32 → κ ≠ 27 → κ ≠ 28 → ¬ ((κ = 32 ∧ i = w) ∨ ((κ = 27 ∨ κ = 28) ∧ ∃ m, m < 8 ∧ i = 8 * w + m)) := fun κ i a b c => by omega
  have tS : mS μ5 (hd 29 w) = mS μ2 (hd 29 w) := (f5.S (by decide) (n5 29 _ (by decide) (by decide) (by decide))).trans ((f4.S (by decide) (n4 29 _ (by decide) (by decide))).trans (f3.S (by decide) (n3 29 _ (by decide) (by decide) (by decide))))
  have tR : ∀ k, mR μ5 (hd 29 w) k = mR μ2 (hd 29 w) k := fun k => (f5.R (by decide) (n5 29 _ (by decide) (by decide) (by decide))).trans ((f4.R (by decide) (n4 29 _ (by decide) (by decide))).trans (f3.R (by decide) (n3 29 _ (by decide) (by decide) (by decide))))
  have tI : ∀ k, mI μ5 (hd 29 w) k = mI μ2 (hd 29 w) k := fun k => (f5.I (by decide) (n5 29 _ (by decide) (by decide) (by decide))).trans ((f4.I (by decide) (n4 29 _ (by decide) (by decide))).trans (f3.I (by decide) (n3 29 _ (by decide) (by decide) (by decide))))
  have u30 : mS μ5 (hd 30 w) = (14, 60) := (f5.S (by decide) (n5 30 _ (by decide) (by decide) (by decide))).trans ((f4.S (by decide) (n4 30 _ (by decide) (by decide))).trans (s3.trans g30))
  have u31 : mS μ5 (hd 31 w) = (7, 5) := (f5.S (by decide) (n5 31 _ (by decide) (by decide) (by decide))).trans (s4.trans ((f3.S (by decide) (n3 31 _ (by decide) (by decide) (by decide))).trans g31))
  have u32 : mS μ5 (hd 32 w) = (13, 8) := s5.trans ((f4.S (by decide) (n4 32 _ (by decide) (by decide))).trans ((f3.S (by decide) (n3 32 _ (by decide) (by decide) (by decide))).trans g32))
  refine Wx.retv d_Wd_init_145 rfl (hQ μ5 (((F2.trans F3').trans F4').trans F5') ⟨⟨tS.trans g29, u30, u31, u32⟩, ⟨(tR _).trans r0, (tR _).trans r1, (tR _).trans r2, (tR _).trans r3⟩, ⟨(tI _).trans i4, (tI _).trans i5, (tI _).trans i6, (tI _).trans i7⟩, fun m hm => ⟨((e3 m hm).1.fr f4 (fun κ z => n4 κ _ (by omega) (by omega))).fr f5 (fun κ z => n5 κ _ (by omega) (by omega) (by omega)), (f5.R (by decide) (n5 30 _ (by decide) (by decide) (by decide))).trans ((f4.R (by decide) (n4 30 _ (by decide) (by decide))).trans (e3 m hm).2)⟩, fun m hm => ⟨(e4 m hm).1.fr f5 (fun κ a b => n5 κ _ (by omega) (by omega) (by omega)), (f5.R (by decide) (n5 31 _ (by decide) (by decide) (by decide))).trans (e4 m hm).2⟩, e5⟩)
