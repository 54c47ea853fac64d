/-! plans and worlds, whole -/
def CdF (q : Nat) (μ : Mu) : Prop := mS μ (hd 21 q) = (1, 2) ∧ (mS μ (hd 22 q) = (20, 400) ∧ mS μ (hd 23 q) = (2, 400) ∧ mS μ (hd 24 q) = (2, 400) ∧ mS μ (hd 25 q) = (2, 400)) ∧ (mR μ (hd 21 q) 0 = some (hd 22 q) ∧ mR μ (hd 21 q) 1 = some (hd 23 q) ∧ mR μ (hd 21 q) 2 = some (hd 24 q) ∧ mR μ (hd 21 q) 3 = some (hd 25 q)) ∧ mI μ (hd 21 q) 4 = 0 ∧ ∀ k, mR μ (hd 22 q) k = none
theorem CdF.fr {q : Nat} {μ μ' : Mu} {own : Nat → Nat → Prop} (h : CdF q μ) (f : FrS own μ μ') (ho : ∀ κ, 21 ≤ κ → κ ≤ 25 → ¬ own κ q) : CdF q μ' := by
  obtain ⟨a1, ⟨a2, a3, a4, a5⟩, ⟨b1, b2, b3, b4⟩, c, e⟩ := h
  have s : ∀ κ, 21 ≤ κ → κ ≤ 25 → mS μ' (hd κ q) = mS μ (hd κ q) := fun κ a b => f.S (by omega) (ho κ a b)
  have r : ∀ κ k, 21 ≤ κ → κ ≤ 25 → mR μ' (hd κ q) k = mR μ (hd κ q) k := fun κ k a b => f.R (by omega) (ho κ a b)
  exact ⟨(s 21 (by decide) (by decide)).trans a1, ⟨(s 22 (by decide) (by decide)).trans a2, (s 23 (by decide) (by decide)).trans a3, (s 24 (by decide) (by decide)).trans a4, (s 25 (by decide) (by decide)).trans a5⟩, ⟨(r 21 _ (by decide) (by decide)).trans b1, (r 21 _ (by decide) (by decide)).trans b2, (r 21 _ (by decide) (by decide)).trans b3, (r 21 _ (by decide) (by decide)).trans b4⟩, (f.I (by decide) (ho 21 (by decide) (by decide))).trans c, fun k => (r 22 k (by decide) (by decide)).trans (e k)⟩
def OwPi (q κ i : Nat) : Prop := (18 ≤ κ ∧ κ ≤ 25 ∧ i = q) ∨ (κ = 26 ∧ 21 * q ≤ i ∧ i < 21 * q + 21) ∨ ((κ = 27 ∨ κ = 28) ∧ 16 + 8 * q ≤ i ∧ i < 16 + 8 * q + 8)
def PlF (q : Nat) (μ : Mu) : Prop := (mS μ (hd 18 q) = (1, 6) ∧ mS μ (hd 19 q) = (13, 8) ∧ mS μ (hd 20 q) = (11, 21)) ∧ (mR μ (hd 18 q) 0 = some (hd 21 q) ∧ mR μ (hd 18 q) 1 = some (hd 19 q) ∧ mR μ (hd 18 q) 2 = some (hd 20 q)) ∧ (mI μ (hd 18 q) 3 = 0 ∧ mI μ (hd 18 q) 4 = 0 ∧ mI μ (hd 18 q) 5 = 0 ∧ mI μ (hd 18 q) 6 = 0) ∧ CdF q μ ∧ (∀ m, m < 8 → RdF (16 + 8 * q + m) μ ∧ mR μ (hd 19 q) m = some (hd 27 (16 + 8 * q + m))) ∧ ∀ m, m < 21 → OdF (21 * q + m) μ ∧ mR μ (hd 20 q) m = some (hd 26 (21 * q + m))
theorem PlF.fr {q : Nat} {μ μ' : Mu} {own : Nat → Nat → Prop} (h : PlF q μ) (f : FrS own μ μ') (ho : ∀ κ i, OwPi q κ i → ¬ own κ i) : PlF q μ' := by
  obtain ⟨⟨a1, a2, a3⟩, ⟨b1, b2, b3⟩, ⟨c1, c2, c3, c4⟩, e, g1, g2⟩ := h
  have o1 : ∀ κ, 18 ≤ κ → κ ≤ 25 → ¬ own κ q := fun κ a b => ho κ q (Or.inl ⟨a, b, rfl⟩)
  have s : ∀ κ, 18 ≤ κ → κ ≤ 25 → mS μ' (hd κ q) = mS μ (hd κ q) := fun κ a b => f.S (by omega) (o1 κ a b)
  have r : ∀ κ k, 18 ≤ κ → κ ≤ 25 → mR μ' (hd κ q) k = mR μ (hd κ q) k := fun κ k a b => f.R (by omega) (o1 κ a b)
  have w : ∀ κ k, 18 ≤ κ → κ ≤ 25 → mI μ' (hd κ q) k = mI μ (hd κ q) k := fun κ k a b => f.I (by omega) (o1 κ a b)
  refine ⟨⟨(s 18 (by decide) (by decide)).trans a1, (s 19 (by decide) (by decide)).trans a2, (s 20 (by decide) (by decide)).trans a3⟩, ⟨(r 18 _ (by decide) (by decide)).trans b1, (r 18 _ (by decide) (by decide)).trans b2, (r 18 _ (by decide) (by decide)).trans b3⟩, ⟨(w 18 _ (by decide) (by decide)).trans c1, (w 18 _ (by decide) (by decide)).trans c2, (w 18 _ (by decide) (by decide)).trans c3, (w 18 _ (by decide) (by decide)).trans c4⟩, e.fr f (fun κ a b => o1 κ (by omega) b), fun m hm => ⟨(g1 m hm).1.fr f (fun κ z => ho κ _ (by unfold OwPi; omega)), (r 19 _ (by decide) (by decide)).trans (g1 m hm).2⟩, fun m hm => ⟨(g2 m hm).1.fr f (ho 26 _ (by unfold OwPi; omega)), (r 20 _ (by decide) (by decide)).trans (g2 m hm).2⟩⟩
theorem c_Pl_init {d : Nat} {Q : Option Value → Mu → Prop} {μ : Mu} {q : Nat} (hD : 4 ≤ d) (hs : mS μ (hd 18 q) = (1, 6)) (hz : ∀ κ i, OwPi q κ i → κ ≠ 18 → mS μ (hd κ i) = (0, 0)) (hQ : ∀ μ', FrS (OwPi q) μ μ' → PlF q μ' → Q none μ') : Call CT ST K_Pl_init d 44 2344 [.ref (hd 18 q)] μ Q := by
  refine Call.of (by decide +kernel) rfl rfl (Nat.le_of_ble_eq_true rfl) rfl (fun _ => ?_)
  have z : ∀ κ, 19 ≤ κ → κ ≤ 25 → mS μ (hd κ q) = (0, 0) := fun κ a b => hz κ q (Or.inl ⟨by omega, b, rfl⟩) (by omega)
  refine Wa.aload_n (j := 0) d_Pl_init_0 rfl ?_
  refine Wa.objInit d_Pl_init_1 ol_Pl_3 oi_1 oi_2 (Nat.le_of_ble_eq_true rfl) (by omega) ?_
  refine Wa.aload_n (j := 0) d_Pl_init_4 rfl ?_
  refine Wa.new (q := E_Cd) (hd 21 q) 2 d_Pl_init_5 rfl ok_Cd (by decide +kernel) cl_Pl_9 (by decide) (by decide) (z 21 (by decide) (by decide)) w_21 ?_
  refine Wa.dup d_Pl_init_8 rfl ?_
  have ze : ∀ κ, 22 ≤ κ → κ ≤ 25 → mS (mkA μ (hd 21 q) (1, 2)) (hd κ q) = (0, 0) := fun κ a b => (S_ne (by decide) (by omega) (by omega)).trans (z κ (by omega) b)
  refine Wa.callI (K' := K_Cd_init) (n := 0) (As := []) (b := hd 21 q) (st := [.ref (hd 21 q), .ref (hd 18 q)]) (d - 1) 4 1600 d_Pl_init_9 mok_Cd_init rfl il_Pl_11 rfl rfl (Nat.le_of_ble_eq_true rfl) (by omega) (by decide) (by decide) (c_Cd_init (Q := fun r μ' => r = none ∧ FrS (OwPi q) (mkA μ (hd 21 q) (1, 2)) μ' ∧ CdF q μ' ∧ (∀ κ k, κ < 256 → ¬ (21 ≤ κ ∧ κ ≤ 25) → mS μ' (hd κ k) = mS (mkA μ (hd 21 q) (1, 2)) (hd κ k))) (by omega) alloc_S (ze 22 (by decide) (by decide)) (ze 23 (by decide) (by decide)) (ze 24 (by decide) (by decide)) (ze 25 (by decide) (by decide)) (fun μ' f a1 a2 a3 a4 a5 b1 b2 b3 b4 c1 _ e => ⟨rfl, f.mono (fun κ j z => by unfold OwPi; omega), ⟨a1, ⟨a2, a3, a4, a5⟩, ⟨b1, b2, b3, b4⟩, c1, e⟩, fun κ k a b => f.S a (by omega)⟩)) (fun r μ1 hq => ?_)
  obtain ⟨rfl, f0, hCd, hn1⟩ := hq
  have f1 : FrS (OwPi q) μ μ1 := (FrS.rf.mk (by decide) (by unfold OwPi; omega)).trans f0
  have sh : ∀ κ k, κ < 256 → ¬ (21 ≤ κ ∧ κ ≤ 25) → mS μ1 (hd κ k) = mS μ (hd κ k) := fun κ k a b => (hn1 κ k a b).trans (S_ne (by decide) a (by omega))
  have h18 : mS μ1 (hd 18 q) = (1, 6) := (sh 18 q (by decide) (by decide)).trans hs
  have h19 : mS μ1 (hd 19 q) = (0, 0) := (sh 19 q (by decide) (by decide)).trans (z 19 (by decide) (by decide))
  have h20 : mS μ1 (hd 20 q) = (0, 0) := (sh 20 q (by decide) (by decide)).trans (z 20 (by decide) (by decide))
  refine Wx.putR 6 0 d_Pl_init_12 f_Pl_0 rfl ok_Pl fl_Pl_12 (Or.inr ⟨rfl, rfl, rfl⟩) w_18 h18 ?_
  refine Wa.aload_n (j := 0) d_Pl_init_15 rfl ?_
  refine Wa.bipush (v := 8) d_Pl_init_16 rfl ?_
  refine Wa.anew (q := E_Rd) (hd 19 q) 7 8 d_Pl_init_18 rfl cl_Pl_18 ao_Rd (by decide) (by decide) (by decide) (by decide) (by decide) h19 w_19 ?_
  refine Wx.putR 6 1 d_Pl_init_21 f_Pl_1 rfl ok_Pl fl_Pl_20 (Or.inr ⟨rfl, rfl, rfl⟩) w_18 (by simp (disch := decide) only [S_I, S_R, S_ne, alloc_S, S_i, R_I, R_eq, R_k, R_ne, R_mk, R_mkn, I_R, I_mk, I_mkn, rd_eq, rd_k, rd_ne]; exact h18) ?_
  refine Wa.aload_n (j := 0) d_Pl_init_24 rfl ?_
  refine Wa.bipush (v := 21) d_Pl_init_25 rfl ?_
  refine Wa.anew (q := E_Od) (hd 20 q) 5 21 d_Pl_init_27 rfl cl_Pl_24 ao_Od (by decide) (by decide) (by decide) (by decide) (by decide) (by simp (disch := decide) only [S_I, S_R, S_ne, alloc_S, S_i, R_I, R_eq, R_k, R_ne, R_mk, R_mkn, I_R, I_mk, I_mkn, rd_eq, rd_k, rd_ne]; exact h20) w_20 ?_
  refine Wx.putR 6 2 d_Pl_init_30 f_Pl_2 rfl ok_Pl fl_Pl_26 (Or.inr ⟨rfl, rfl, rfl⟩) w_18 (by simp (disch := decide) only [S_I, S_R, S_ne, alloc_S, S_i, R_I, R_eq, R_k, R_ne, R_mk, R_mkn, I_R, I_mk, I_mkn, rd_eq, rd_k, rd_ne]; exact h18) ?_
  refine Wa.aload_n (j := 0) d_Pl_init_33 rfl ?_
  refine Wa.iconst (v := 0) d_Pl_init_34 rfl ?_
  refine Wx.putI 6 3 d_Pl_init_35 f_Pl_3 ok_Pl fl_Pl_30 (Or.inl rfl) w_18 (by simp (disch := decide) only [S_I, S_R, S_ne, alloc_S, S_i, R_I, R_eq, R_k, R_ne, R_mk, R_mkn, I_R, I_mk, I_mkn, rd_eq, rd_k, rd_ne]; exact h18) ?_
  refine Wa.aload_n (j := 0) d_Pl_init_38 rfl ?_
  refine Wa.iconst (v := 0) d_Pl_init_39 rfl ?_
  refine Wx.putI 6 4 d_Pl_init_40 f_Pl_4 ok_Pl fl_Pl_34 (Or.inl rfl) w_18 (by simp (disch := decide) only [S_I, S_R, S_ne, alloc_S, S_i, R_I, R_eq, R_k, R_ne, R_mk, R_mkn, I_R, I_mk, I_mkn, rd_eq, rd_k, rd_ne]; exact h18) ?_
  refine Wa.aload_n (j := 0) d_Pl_init_43 rfl ?_
  refine Wa.iconst (v := 0) d_Pl_init_44 rfl ?_
  refine Wx.putI 6 5 d_Pl_init_45 f_Pl_5 ok_Pl fl_Pl_37 (Or.inl rfl) w_18 (by simp (disch := decide) only [S_I, S_R, S_ne, alloc_S, S_i, R_I, R_eq, R_k, R_ne, R_mk, R_mkn, I_R, I_mk, I_mkn, rd_eq, rd_k, rd_ne]; exact h18) ?_
  refine Wa.aload_n (j := 0) d_Pl_init_48 rfl ?_
  refine Wa.iconst (v := 0) d_Pl_init_49 rfl ?_
  refine Wx.putI 6 6 d_Pl_init_50 f_Pl_6 ok_Pl fl_Pl_40 (Or.inl rfl) w_18 (by simp (disch := decide) only [S_I, S_R, S_ne, alloc_S, S_i, R_I, R_eq, R_k, R_ne, R_mk, R_mkn, I_R, I_mk, I_mkn, rd_eq, rd_k, rd_ne]; exact h18) ?_
  have f2 : FrS (fun κ j => (18 ≤ κ ∧ κ ≤ 20) ∧ j = q) μ1 (setI (setI (setI (setI (setR (mkA (setR (mkA (setR μ1 (hd 18 q) 0 (hd 21 q)) (hd 19 q) (13, 8)) (hd 18 q) 1 (hd 19 q)) (hd 20 q) (11, 21)) (hd 18 q) 2 (hd 20 q)) (hd 18 q) 3 0) (hd 18 q) 4 0) (hd 18 q) 5 0) (hd 18 q) 6 0) := ((((((((FrS.rf.sR (by decide) (by omega)).mk (by decide) (by omega)).sR (by decide) (by omega)).mk (by decide) (by omega)).sR (by decide) (by omega)).sI (by decide) (by omega)).sI (by decide) (by omega)).sI (by decide) (by omega)).sI (by decide) (by omega)
  have g18 : mS (setI (setI (setI (setI (setR (mkA (setR (mkA (setR μ1 (hd 18 q) 0 (hd 21 q)) (hd 19 q) (13, 8)) (hd 18 q) 1 (hd 19 q)) (hd 20 q) (11, 21)) (hd 18 q) 2 (hd 20 q)) (hd 18 q) 3 0) (hd 18 q) 4 0) (hd 18 q) 5 0) (hd 18 q) 6 0) (hd 18 q) = (1, 6) := by simp (disch := decide) only [S_I, S_R, S_ne, alloc_S, S_i, R_I, R_eq, R_k, R_ne, R_mk, R_mkn, I_R, I_mk, I_mkn, rd_eq, rd_k, rd_ne]; exact h18
  have g19 : mS (setI (setI (setI (setI (setR (mkA (setR (mkA (setR μ1 (hd 18 q) 0 (hd 21 q)) (hd 19 q) (13, 8)) (hd 18 q) 1 (hd 19 q)) (hd 20 q) (11, 21)) (hd 18 q) 2 (hd 20 q)) (hd 18 q) 3 0) (hd 18 q) 4 0) (hd 18 q) 5 0) (hd 18 q) 6 0) (hd 19 q) = (13, 8) := by simp (disch := decide) only [S_I, S_R, S_ne, alloc_S, S_i, R_I, R_eq, R_k, R_ne, R_mk, R_mkn, I_R, I_mk, I_mkn, rd_eq, rd_k, rd_ne]
  have g20 : mS (setI (setI (setI (setI (setR (mkA (setR (mkA (setR μ1 (hd 18 q) 0 (hd 21 q)) (hd 19 q) (13, 8)) (hd 18 q) 1 (hd 19 q)) (hd 20 q) (11, 21)) (hd 18 q) 2 (hd 20 q)) (hd 18 q) 3 0) (hd 18 q) 4 0) (hd 18 q) 5 0) (hd 18 q) 6 0) (hd 20 q) = (11, 21) := by simp (disch := decide) only [S_I, S_R, S_ne, alloc_S, S_i, R_I, R_eq, R_k, R_ne, R_mk, R_mkn, I_R, I_mk, I_mkn, rd_eq, rd_k, rd_ne]
  have r0 : mR (setI (setI (setI (setI (setR (mkA (setR (mkA (setR μ1 (hd 18 q) 0 (hd 21 q)) (hd 19 q) (13, 8)) (hd 18 q) 1 (hd 19 q)) (hd 20 q) (11, 21)) (hd 18 q) 2 (hd 20 q)) (hd 18 q) 3 0) (hd 18 q) 4 0) (hd 18 q) 5 0) (hd 18 q) 6 0) (hd 18 q) 0 = some (hd 21 q) := by simp (disch := decide) only [S_I, S_R, S_ne, alloc_S, S_i, R_I, R_eq, R_k, R_ne, R_mk, R_mkn, I_R, I_mk, I_mkn, rd_eq, rd_k, rd_ne]
  have r1 : mR (setI (setI (setI (setI (setR (mkA (setR (mkA (setR μ1 (hd 18 q) 0 (hd 21 q)) (hd 19 q) (13, 8)) (hd 18 q) 1 (hd 19 q)) (hd 20 q) (11, 21)) (hd 18 q) 2 (hd 20 q)) (hd 18 q) 3 0) (hd 18 q) 4 0) (hd 18 q) 5 0) (hd 18 q) 6 0) (hd 18 q) 1 = some (hd 19 q) := by simp (disch := decide) only [S_I, S_R, S_ne, alloc_S, S_i, R_I, R_eq, R_k, R_ne, R_mk, R_mkn, I_R, I_mk, I_mkn, rd_eq, rd_k, rd_ne]
  have r2 : mR (setI (setI (setI (setI (setR (mkA (setR (mkA (setR μ1 (hd 18 q) 0 (hd 21 q)) (hd 19 q) (13, 8)) (hd 18 q) 1 (hd 19 q)) (hd 20 q) (11, 21)) (hd 18 q) 2 (hd 20 q)) (hd 18 q) 3 0) (hd 18 q) 4 0) (hd 18 q) 5 0) (hd 18 q) 6 0) (hd 18 q) 2 = some (hd 20 q) := by simp (disch := decide) only [S_I, S_R, S_ne, alloc_S, S_i, R_I, R_eq, R_k, R_ne, R_mk, R_mkn, I_R, I_mk, I_mkn, rd_eq, rd_k, rd_ne]
  have i3 : mI (setI (setI (setI (setI (setR (mkA (setR (mkA (setR μ1 (hd 18 q) 0 (hd 21 q)) (hd 19 q) (13, 8)) (hd 18 q) 1 (hd 19 q)) (hd 20 q) (11, 21)) (hd 18 q) 2 (hd 20 q)) (hd 18 q) 3 0) (hd 18 q) 4 0) (hd 18 q) 5 0) (hd 18 q) 6 0) (hd 18 q) 3 = 0 := by simp (disch := decide) only [S_I, S_R, S_ne, alloc_S, S_i, R_I, R_eq, R_k, R_ne, R_mk, R_mkn, I_R, I_mk, I_mkn, rd_eq, rd_k, rd_ne]
  have i4 : mI (setI (setI (setI (setI (setR (mkA (setR (mkA (setR μ1 (hd 18 q) 0 (hd 21 q)) (hd 19 q) (13, 8)) (hd 18 q) 1 (hd 19 q)) (hd 20 q) (11, 21)) (hd 18 q) 2 (hd 20 q)) (hd 18 q) 3 0) (hd 18 q) 4 0) (hd 18 q) 5 0) (hd 18 q) 6 0) (hd 18 q) 4 = 0 := by simp (disch := decide) only [S_I, S_R, S_ne, alloc_S, S_i, R_I, R_eq, R_k, R_ne, R_mk, R_mkn, I_R, I_mk, I_mkn, rd_eq, rd_k, rd_ne]
  have i5 : mI (setI (setI (setI (setI (setR (mkA (setR (mkA (setR μ1 (hd 18 q) 0 (hd 21 q)) (hd 19 q) (13, 8)) (hd 18 q) 1 (hd 19 q)) (hd 20 q) (11, 21)) (hd 18 q) 2 (hd 20 q)) (hd 18 q) 3 0) (hd 18 q) 4 0) (hd 18 q) 5 0) (hd 18 q) 6 0) (hd 18 q) 5 = 0 := by simp (disch := decide) only [S_I, S_R, S_ne, alloc_S, S_i, R_I, R_eq, R_k, R_ne, R_mk, R_mkn, I_R, I_mk, I_mkn, rd_eq, rd_k, rd_ne]
  have i6 : mI (setI (setI (setI (setI (setR (mkA (setR (mkA (setR μ1 (hd 18 q) 0 (hd 21 q)) (hd 19 q) (13, 8)) (hd 18 q) 1 (hd 19 q)) (hd 20 q) (11, 21)) (hd 18 q) 2 (hd 20 q)) (hd 18 q) 3 0) (hd 18 q) 4 0) (hd 18 q) 5 0) (hd 18 q) 6 0) (hd 18 q) 6 = 0 := by simp (disch := decide) only [S_I, S_R, S_ne, alloc_S, S_i, R_I, R_eq, R_k, R_ne, R_mk, R_mkn, I_R, I_mk, I_mkn, rd_eq, rd_k, rd_ne]
  generalize setI (setI (setI (setI (setR (mkA (setR (mkA (setR μ1 (hd 18 q) 0 (hd 21 q)) (hd 19 q) (13, 8)) (hd 18 q) 1 (hd 19 q)) (hd 20 q) (11, 21)) (hd 18 q) 2 (hd 20 q)) (hd 18 q) 3 0) (hd 18 q) 4 0) (hd 18 q) 5 0) (hd 18 q) 6 0 = μ2 at *
  have hCd2 := hCd.fr f2 (fun κ a b => by omega)
  have F2 : FrS (OwPi q) μ μ2 := f1.trans (f2.mono (fun κ j z => by unfold OwPi; omega))
  have zR : ∀ κ i, (26 ≤ κ ∧ κ ≤ 28) → OwPi q κ i → mS μ2 (hd κ i) = (0, 0) := fun κ i a b => (f2.S (by omega) (by omega)).trans ((sh κ i (by omega) (by omega)).trans (hz κ i b (by omega)))
  refine Wa.iconst (v := 0) d_Pl_init_53 rfl ?_
  refine Wa.istore_n (i := 1) d_Pl_init_54 rfl (by decide) rfl ?_
  refine Wa.loc [1, 0] rfl ?_
  have gr : ∀ {μ : Mu} {k x : Nat}, mR μ (hd 18 q) k = some x → gR μ (hd 18 q) k = some x := fun h => (gR_rw w_18 _).trans h
  refine l_PlR (rc := 21) (rs := 189) (B := 16 + 8 * q) (μ0 := μ2) (by omega) g18 g19 (gr r1) (fun m κ hm hκ => zR κ _ (by omega) (by unfold OwPi; omega)) (fun μ3 F3 => ?_) 8 0 _ _ μ2 rfl rfl rfl ⟨FrS.rf, rfl, fun m hm => absurd hm (Nat.not_lt_zero _), fun m κ _ hm hκ => zR κ _ (by omega) (by unfold OwPi; omega)⟩
  obtain ⟨f3, s3, e3, -⟩ := F3
  have f3' : FrS (OwPi q) μ2 μ3 := f3.mono (fun κ j z => by
    rcases z with ⟨rfl, rfl⟩ | ⟨hk, m, hm, rfl⟩
    · unfold OwPi; omega
    · unfold OwPi; omega)
  have k18 : ∀ κ, 18 ≤ κ → κ ≤ 26 → κ ≠ 19 → ∀ i, ¬ ((κ = 19 ∧ i = q) ∨ ((κ = 27 ∨ κ = 28) ∧ ∃ m, m < 8 ∧ i = 16 + 8 * q + m)) := fun κ a b c i => by omega
  refine Wa.iconst (v := 0) d_Pl_init_83 rfl ?_
  refine Wa.istore_n (i := 1) d_Pl_init_84 rfl (by decide) rfl ?_
  refine Wa.loc [1, 0] rfl ?_
  refine l_PlO (rc := 0) (rs := 0) (B := 21 * q) (μ0 := μ3) (by omega) ((f3.S (by decide) (k18 18 (by decide) (by decide) (by decide) _)).trans g18) ((f3.S (by decide) (k18 20 (by decide) (by decide) (by decide) _)).trans g20) (gr ((f3.R (by decide) (k18 18 (by decide) (by decide) (by decide) _)).trans r2)) (fun m κ hm hκ => (f3.S (by omega) (by omega)).trans (zR κ _ (by omega) (by unfold OwPi; omega))) (fun μ4 F4 => ?_) 21 0 _ _ μ3 rfl rfl rfl ⟨FrS.rf, rfl, fun m hm => absurd hm (Nat.not_lt_zero _), fun m κ _ hm hκ => (f3.S (by omega) (by omega)).trans (zR κ _ (by omega) (by unfold OwPi; omega))⟩
  obtain ⟨f4, s4, e4, -⟩ := F4
  have f4' : FrS (OwPi q) μ3 μ4 := f4.mono (fun κ j z => by
    rcases z with ⟨rfl, rfl⟩ | ⟨hk, m, hm, rfl⟩
    · unfold OwPi; omega
    · unfold OwPi; omega)
  have k19 : ∀ κ, 18 ≤ κ → κ ≤ 28 → κ ≠ 20 → κ ≠ 26 → ∀ i, ¬ ((κ = 20 ∧ i = q) ∨ ((κ = 26) ∧ ∃ m, m < 21 ∧ i = 21 * q + m)) := fun κ a b c e i => by omega
  have tS : ∀ κ, 18 ≤ κ → κ ≤ 25 → κ ≠ 19 → κ ≠ 20 → mS μ4 (hd κ q) = mS μ2 (hd κ q) := fun κ a b c e => (f4.S (by omega) (k19 κ a (by omega) e (by omega) q)).trans (f3.S (by omega) (k18 κ a (by omega) c q))
  have tR : ∀ κ k, 18 ≤ κ → κ ≤ 25 → κ ≠ 19 → κ ≠ 20 → mR μ4 (hd κ q) k = mR μ2 (hd κ q) k := fun κ k a b c e => (f4.R (by omega) (k19 κ a (by omega) e (by omega) q)).trans (f3.R (by omega) (k18 κ a (by omega) c q))
  have tI : ∀ κ k, 18 ≤ κ → κ ≤ 25 → κ ≠ 19 → κ ≠ 20 → mI μ4 (hd κ q) k = mI μ2 (hd κ q) k := fun κ k a b c e => (f4.I (by omega) (k19 κ a (by omega) e (by omega) q)).trans (f3.I (by omega) (k18 κ a (by omega) c q))
  refine Wx.retv d_Pl_init_113 rfl (hQ μ4 ((F2.trans f3').trans f4') ⟨⟨(tS 18 (by decide) (by decide) (by decide) (by decide)).trans g18, (f4.S (by decide) (k19 19 (by decide) (by decide) (by decide) (by decide) q)).trans (s3.trans g19), s4.trans ((f3.S (by decide) (k18 20 (by decide) (by decide) (by decide) q)).trans g20)⟩, ⟨(tR 18 _ (by decide) (by decide) (by decide) (by decide)).trans r0, (tR 18 _ (by decide) (by decide) (by decide) (by decide)).trans r1, (tR 18 _ (by decide) (by decide) (by decide) (by decide)).trans r2⟩, ⟨(tI 18 _ (by decide) (by decide) (by decide) (by decide)).trans i3, (tI 18 _ (by decide) (by decide) (by decide) (by decide)).trans i4, (tI 18 _ (by decide) (by decide) (by decide) (by decide)).trans i5, (tI 18 _ (by decide) (by decide) (by decide) (by decide)).trans i6⟩, (hCd2.fr f3 (fun κ a b => k18 κ (by omega) (by omega) (by omega) q)).fr f4 (fun κ a b => k19 κ (by omega) (by omega) (by omega) (by omega) q), fun m hm => ⟨(e3 m hm).1.fr f4 (fun κ z => k19 κ (by omega) (by omega) (by omega) (by omega) _), (f4.R (by decide) (k19 19 (by decide) (by decide) (by decide) (by decide) q)).trans (e3 m hm).2⟩, fun m hm => ⟨(e4 m hm).1, (e4 m hm).2⟩⟩)
