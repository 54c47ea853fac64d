/-! the model is made -/
theorem PBF.fr {μ μ' : Mu} {own : Nat → Nat → Prop} (h : PBF μ) (f : FrS own μ μ') (ho : ∀ κ i, 8 ≤ κ → κ ≤ 38 → ¬ own κ i) : PBF μ' :=
  ⟨h.1.fr f (ho _ _ (by decide) (by decide)) (ho _ _ (by decide) (by decide)), h.2.1.fr f (fun κ i z => ho κ i (by unfold OwPi at z; omega) (by unfold OwPi at z; omega)), h.2.2.1.fr f (fun κ i z => ho κ i (by unfold OwPi at z; omega) (by unfold OwPi at z; omega)), h.2.2.2.1.fr f (fun κ i z => ho κ i (by omega) (by omega)), h.2.2.2.2.1.fr f (ho _ _ (by decide) (by decide)), h.2.2.2.2.2.1.fr f (fun i => ⟨ho _ _ (by decide) (by decide), ho _ _ (by decide) (by decide)⟩), h.2.2.2.2.2.2.1.fr f (fun κ i z => ho κ i (by unfold OwWi at z; omega) (by unfold OwWi at z; omega)), h.2.2.2.2.2.2.2.fr f (fun κ i z => ho κ i (by unfold OwWi at z; omega) (by unfold OwWi at z; omega))⟩
theorem MMC.fr {μ μ' : Mu} {own : Nat → Nat → Prop} (h : MMC μ) (f : FrS own μ μ') (ho : ∀ κ, 40 ≤ κ → κ ≤ 46 → ¬ own κ 0) : MMC μ' := by
  have k : ∀ e ∈ mmS, e.1 < 256 ∧ 40 ≤ e.1 ∧ e.1 ≤ 46 := by decide
  exact ⟨fun e he => (f.S (k e he).1 (ho _ (k e he).2.1 (k e he).2.2)).trans (h.1 e he), fun e he => (f.R (by decide) (ho _ (by decide) (by decide))).trans (h.2 e he)⟩
theorem MMC.put {μ : Mu} {k x : Nat} (h : MMC μ) (hk : ∀ e ∈ mmR, e.1 ≠ k) : MMC (setR μ (hd 40 0) k x) := ⟨h.1, fun e he => (R_k (hk e he)).trans (h.2 e he)⟩
theorem nmp_F : ∀ (l : List (Nat × Nat × Nat)) (μ : Mu), (∀ e ∈ l, 50 ≤ e.1 ∧ e.1 ≤ 62) → FrS (fun κ i => (50 ≤ κ ∧ κ ≤ 62) ∧ i = 0) μ (l.foldl (mpS 0) μ)
  | [], _, _ => FrS.rf
  | e :: l, μ, h => FrS.trans (μ' := mpS 0 μ e) ((FrS.rf.mk (by have := h e List.mem_cons_self; omega) ⟨h e List.mem_cons_self, rfl⟩).sR (by decide) ⟨by decide, rfl⟩) (nmp_F l _ (fun z hz => h z (List.mem_cons_of_mem _ hz)))
theorem c_MSi {d : Nat} {Q : Option Value → Mu → Prop} {μ : Mu} {i : Nat} (hD : 1 ≤ d) (hs : mS μ (hd 65 i) = (1, 13)) (hf : ∀ κ, 66 ≤ κ → κ ≤ 82 → mS μ (hd κ i) = (0, 0)) (hQ : ∀ μ', FrS (fun κ j => (65 ≤ κ ∧ κ ≤ 82) ∧ j = i) μ μ' → MSF i μ' → Q none μ') : Call CT ST K_MS_init d 17 2704 [.ref (hd 65 i), .ref (hd 40 0)] μ Q :=
  c_MS_init hD hs (hf 66 (by decide) (by decide)) (hf 67 (by decide) (by decide)) (hf 68 (by decide) (by decide)) (hf 69 (by decide) (by decide)) (hf 70 (by decide) (by decide)) (hf 71 (by decide) (by decide)) (hf 72 (by decide) (by decide)) (hf 73 (by decide) (by decide)) (hf 74 (by decide) (by decide)) (hf 75 (by decide) (by decide)) (hf 76 (by decide) (by decide)) (hf 77 (by decide) (by decide)) (hf 78 (by decide) (by decide)) (hf 79 (by decide) (by decide)) (hf 80 (by decide) (by decide)) (hf 81 (by decide) (by decide)) (hf 82 (by decide) (by decide)) (fun μ' f a0 a1 a2 a3 a4 a5 a6 a7 a8 a9 a10 a11 a12 a13 a14 a15 a16 a17 b0 b1 b2 b3 b4 b5 b6 b7 b8 b9 b10 b11 b12 b13 b14 b15 b16 b17 => hQ μ' (f.mono (fun κ j h => by omega)) ⟨(fal_c a0 (fal_c a1 (fal_c a2 (fal_c a3 (fal_c a4 (fal_c a5 (fal_c a6 (fal_c a7 (fal_c a8 (fal_c a9 (fal_c a10 (fal_c a11 (fal_c a12 (fal_c a13 (fal_c a14 (fal_c a15 (fal_c a16 (fal_c a17 fal_n)))))))))))))))))), (fal_c b1 (fal_c b2 (fal_c b3 (fal_c b4 (fal_c b5 (fal_c b6 (fal_c b7 (fal_c b8 (fal_c b9 (fal_c b10 (fal_c b11 (fal_c b12 (fal_c b13 (fal_c b14 (fal_c b15 (fal_c b16 (fal_c b17 fal_n))))))))))))))))), b0⟩)
def tZ : PT := fun _ _ => 0
def dZ : DT := fun _ _ _ => 0
theorem db_Z : DB tZ dZ := ⟨⟨by decide, by decide, by decide, by decide, by decide, by decide⟩, fun s h => absurd h (Nat.not_lt_zero _), fun s h => absurd h (Nat.not_lt_zero _), fun s h => absurd h (Nat.not_lt_zero _)⟩
theorem d0_Z : D0 dZ := ⟨⟨rfl, rfl, rfl, rfl⟩, fun _ _ => rfl, fun _ _ => rfl, fun _ _ => rfl, fun _ => rfl, fun _ => rfl, fun _ _ => rfl⟩
set_option maxHeartbeats 4000000 in
theorem c_MM_init {d : Nat} {Q : Option Value → Mu → Prop} {μ : Mu} (hD : 4 ≤ d) (hs : mS μ (hd 40 0) = (1, 11)) (h2 : mI μ (hd 40 0) 2 = 0) (hz : ∀ κ i, 41 ≤ κ → κ ≤ 89 → mS μ (hd κ i) = (0, 0)) (hC : CnF μ) (hP : PBF μ)
    (hQ : ∀ μ', FrS (fun κ _ => 40 ≤ κ ∧ κ ≤ 89) μ μ' → S9 μ' → MW μ' 0 tZ dZ [] → mI μ' (hd 40 0) 2 = 0 → mI μ' (hd 40 0) 3 = -1 → Q none μ') : Call CT ST K_MM_init d 55 10847 [.ref (hd 40 0)] μ Q := by
  refine Call.of (by decide +kernel) rfl rfl (Nat.le_of_ble_eq_true rfl) rfl (fun _ => ?_)
  refine Wa.aload_n (j := 0) d_MM_init_0 rfl ?_
  refine Wa.objInit d_MM_init_1 ol_MM_1 oi_1 oi_2 (Nat.le_of_ble_eq_true rfl) (by omega) ?_
  refine Wa.aload_n (j := 0) d_MM_init_4 rfl ?_
  refine Wa.sipush (v := 2000) d_MM_init_5 rfl ?_
  refine Wa.newarr (hd 41 0) 2 2000 d_MM_init_8 ac_int rfl (by decide) (by decide) (by decide) (by decide) (by decide) (by decide) (by first | exact hz 41 0 (by decide) (by decide) | (simp (disch := decide) only [S_I, S_R, S_ne, alloc_S, S_i, R_I, R_eq, R_k, R_ne, R_mk, R_mkn, I_R, I_mk, I_mkn, rd_eq, rd_k, rd_ne]; exact hz 41 0 (by decide) (by decide))) w_41 ?_
  refine Wx.putR 11 1 d_MM_init_10 f_MM_1 rfl ok_MM fl_MM_9 (Or.inr ⟨rfl, rfl, rfl⟩) w_40 (by first | exact hs | (simp (disch := decide) only [S_I, S_R, S_ne, alloc_S, S_i, R_I, R_eq, R_k, R_ne, R_mk, R_mkn, I_R, I_mk, I_mkn, rd_eq, rd_k, rd_ne]; exact hs)) ?_
  refine Wa.aload_n (j := 0) d_MM_init_13 rfl ?_
  refine Wa.iconst (v := -1) d_MM_init_14 rfl ?_
  refine Wx.putI 11 3 d_MM_init_15 f_MM_3 ok_MM fl_MM_13 (Or.inl rfl) w_40 (by first | exact hs | (simp (disch := decide) only [S_I, S_R, S_ne, alloc_S, S_i, R_I, R_eq, R_k, R_ne, R_mk, R_mkn, I_R, I_mk, I_mkn, rd_eq, rd_k, rd_ne]; exact hs)) ?_
  refine Wa.aload_n (j := 0) d_MM_init_18 rfl ?_
  refine Wa.sipush (v := 401) d_MM_init_19 rfl ?_
  refine Wa.newarr (hd 42 0) 2 401 d_MM_init_22 ac_int rfl (by decide) (by decide) (by decide) (by decide) (by decide) (by decide) (by first | exact hz 42 0 (by decide) (by decide) | (simp (disch := decide) only [S_I, S_R, S_ne, alloc_S, S_i, R_I, R_eq, R_k, R_ne, R_mk, R_mkn, I_R, I_mk, I_mkn, rd_eq, rd_k, rd_ne]; exact hz 42 0 (by decide) (by decide))) w_42 ?_
  refine Wx.putR 11 4 d_MM_init_24 f_MM_4 rfl ok_MM fl_MM_17 (Or.inr ⟨rfl, rfl, rfl⟩) w_40 (by first | exact hs | (simp (disch := decide) only [S_I, S_R, S_ne, alloc_S, S_i, R_I, R_eq, R_k, R_ne, R_mk, R_mkn, I_R, I_mk, I_mkn, rd_eq, rd_k, rd_ne]; exact hs)) ?_
  refine Wa.aload_n (j := 0) d_MM_init_27 rfl ?_
  refine Wa.sipush (v := 401) d_MM_init_28 rfl ?_
  refine Wa.newarr (hd 43 0) 2 401 d_MM_init_31 ac_int rfl (by decide) (by decide) (by decide) (by decide) (by decide) (by decide) (by first | exact hz 43 0 (by decide) (by decide) | (simp (disch := decide) only [S_I, S_R, S_ne, alloc_S, S_i, R_I, R_eq, R_k, R_ne, R_mk, R_mkn, I_R, I_mk, I_mkn, rd_eq, rd_k, rd_ne]; exact hz 43 0 (by decide) (by decide))) w_43 ?_
  refine Wx.putR 11 5 d_MM_init_33 f_MM_5 rfl ok_MM fl_MM_20 (Or.inr ⟨rfl, rfl, rfl⟩) w_40 (by first | exact hs | (simp (disch := decide) only [S_I, S_R, S_ne, alloc_S, S_i, R_I, R_eq, R_k, R_ne, R_mk, R_mkn, I_R, I_mk, I_mkn, rd_eq, rd_k, rd_ne]; exact hs)) ?_
  refine Wa.aload_n (j := 0) d_MM_init_36 rfl ?_
  refine Wa.sipush (v := 401) d_MM_init_37 rfl ?_
  refine Wa.newarr (hd 44 0) 2 401 d_MM_init_40 ac_int rfl (by decide) (by decide) (by decide) (by decide) (by decide) (by decide) (by first | exact hz 44 0 (by decide) (by decide) | (simp (disch := decide) only [S_I, S_R, S_ne, alloc_S, S_i, R_I, R_eq, R_k, R_ne, R_mk, R_mkn, I_R, I_mk, I_mkn, rd_eq, rd_k, rd_ne]; exact hz 44 0 (by decide) (by decide))) w_44 ?_
  refine Wx.putR 11 6 d_MM_init_42 f_MM_6 rfl ok_MM fl_MM_23 (Or.inr ⟨rfl, rfl, rfl⟩) w_40 (by first | exact hs | (simp (disch := decide) only [S_I, S_R, S_ne, alloc_S, S_i, R_I, R_eq, R_k, R_ne, R_mk, R_mkn, I_R, I_mk, I_mkn, rd_eq, rd_k, rd_ne]; exact hs)) ?_
  refine Wa.aload_n (j := 0) d_MM_init_45 rfl ?_
  refine Wa.sipush (v := 401) d_MM_init_46 rfl ?_
  refine Wa.newarr (hd 45 0) 2 401 d_MM_init_49 ac_int rfl (by decide) (by decide) (by decide) (by decide) (by decide) (by decide) (by first | exact hz 45 0 (by decide) (by decide) | (simp (disch := decide) only [S_I, S_R, S_ne, alloc_S, S_i, R_I, R_eq, R_k, R_ne, R_mk, R_mkn, I_R, I_mk, I_mkn, rd_eq, rd_k, rd_ne]; exact hz 45 0 (by decide) (by decide))) w_45 ?_
  refine Wx.putR 11 7 d_MM_init_51 f_MM_7 rfl ok_MM fl_MM_26 (Or.inr ⟨rfl, rfl, rfl⟩) w_40 (by first | exact hs | (simp (disch := decide) only [S_I, S_R, S_ne, alloc_S, S_i, R_I, R_eq, R_k, R_ne, R_mk, R_mkn, I_R, I_mk, I_mkn, rd_eq, rd_k, rd_ne]; exact hs)) ?_
  refine Wa.aload_n (j := 0) d_MM_init_54 rfl ?_
  refine Wa.sipush (v := 401) d_MM_init_55 rfl ?_
  refine Wa.newarr (hd 46 0) 2 401 d_MM_init_58 ac_int rfl (by decide) (by decide) (by decide) (by decide) (by decide) (by decide) (by first | exact hz 46 0 (by decide) (by decide) | (simp (disch := decide) only [S_I, S_R, S_ne, alloc_S, S_i, R_I, R_eq, R_k, R_ne, R_mk, R_mkn, I_R, I_mk, I_mkn, rd_eq, rd_k, rd_ne]; exact hz 46 0 (by decide) (by decide))) w_46 ?_
  refine Wx.putR 11 8 d_MM_init_60 f_MM_8 rfl ok_MM fl_MM_29 (Or.inr ⟨rfl, rfl, rfl⟩) w_40 (by first | exact hs | (simp (disch := decide) only [S_I, S_R, S_ne, alloc_S, S_i, R_I, R_eq, R_k, R_ne, R_mk, R_mkn, I_R, I_mk, I_mkn, rd_eq, rd_k, rd_ne]; exact hs)) ?_
  obtain ⟨M, hM⟩ : ∃ M, M = (setR (mkA (setR (mkA (setR (mkA (setR (mkA (setR (mkA (setI (setR (mkA μ (hd 41 0) (2, 2000)) (hd 40 0) 1 (hd 41 0)) (hd 40 0) 3 (-1)) (hd 42 0) (2, 401)) (hd 40 0) 4 (hd 42 0)) (hd 43 0) (2, 401)) (hd 40 0) 5 (hd 43 0)) (hd 44 0) (2, 401)) (hd 40 0) 6 (hd 44 0)) (hd 45 0) (2, 401)) (hd 40 0) 7 (hd 45 0)) (hd 46 0) (2, 401)) (hd 40 0) 8 (hd 46 0)) := ⟨_, rfl⟩
  rw [← hM]
  have F : FrS (fun κ i => (40 ≤ κ ∧ κ ≤ 46) ∧ i = 0) μ M := by rw [hM]; exact (((((((((((((FrS.rf.mk (by decide) (by decide)).sR (by decide) (by decide)).sI (by decide) (by decide)).mk (by decide) (by decide)).sR (by decide) (by decide)).mk (by decide) (by decide)).sR (by decide) (by decide)).mk (by decide) (by decide)).sR (by decide) (by decide)).mk (by decide) (by decide)).sR (by decide) (by decide)).mk (by decide) (by decide)).sR (by decide) (by decide))
  have s40 : mS M (hd 40 0) = (1, 11) := by rw [hM]; simp (disch := decide) only [S_I, S_R, S_ne, alloc_S, S_i, R_I, R_eq, R_k, R_ne, R_mk, R_mkn, I_R, I_mk, I_mkn, rd_eq, rd_k, rd_ne]; exact hs
  have s41 : mS M (hd 41 0) = (2, 2000) := by rw [hM]; simp (disch := decide) only [S_I, S_R, S_ne, alloc_S, S_i, R_I, R_eq, R_k, R_ne, R_mk, R_mkn, I_R, I_mk, I_mkn, rd_eq, rd_k, rd_ne]
  have s42 : mS M (hd 42 0) = (2, 401) := by rw [hM]; simp (disch := decide) only [S_I, S_R, S_ne, alloc_S, S_i, R_I, R_eq, R_k, R_ne, R_mk, R_mkn, I_R, I_mk, I_mkn, rd_eq, rd_k, rd_ne]
  have s43 : mS M (hd 43 0) = (2, 401) := by rw [hM]; simp (disch := decide) only [S_I, S_R, S_ne, alloc_S, S_i, R_I, R_eq, R_k, R_ne, R_mk, R_mkn, I_R, I_mk, I_mkn, rd_eq, rd_k, rd_ne]
  have s44 : mS M (hd 44 0) = (2, 401) := by rw [hM]; simp (disch := decide) only [S_I, S_R, S_ne, alloc_S, S_i, R_I, R_eq, R_k, R_ne, R_mk, R_mkn, I_R, I_mk, I_mkn, rd_eq, rd_k, rd_ne]
  have s45 : mS M (hd 45 0) = (2, 401) := by rw [hM]; simp (disch := decide) only [S_I, S_R, S_ne, alloc_S, S_i, R_I, R_eq, R_k, R_ne, R_mk, R_mkn, I_R, I_mk, I_mkn, rd_eq, rd_k, rd_ne]
  have s46 : mS M (hd 46 0) = (2, 401) := by rw [hM]; simp (disch := decide) only [S_I, S_R, S_ne, alloc_S, S_i, R_I, R_eq, R_k, R_ne, R_mk, R_mkn, I_R, I_mk, I_mkn, rd_eq, rd_k, rd_ne]
  have r1 : mR M (hd 40 0) 1 = some (hd 41 0) := by rw [hM]; simp (disch := decide) only [S_I, S_R, S_ne, alloc_S, S_i, R_I, R_eq, R_k, R_ne, R_mk, R_mkn, I_R, I_mk, I_mkn, rd_eq, rd_k, rd_ne]
  have r4 : mR M (hd 40 0) 4 = some (hd 42 0) := by rw [hM]; simp (disch := decide) only [S_I, S_R, S_ne, alloc_S, S_i, R_I, R_eq, R_k, R_ne, R_mk, R_mkn, I_R, I_mk, I_mkn, rd_eq, rd_k, rd_ne]
  have r5 : mR M (hd 40 0) 5 = some (hd 43 0) := by rw [hM]; simp (disch := decide) only [S_I, S_R, S_ne, alloc_S, S_i, R_I, R_eq, R_k, R_ne, R_mk, R_mkn, I_R, I_mk, I_mkn, rd_eq, rd_k, rd_ne]
  have r6 : mR M (hd 40 0) 6 = some (hd 44 0) := by rw [hM]; simp (disch := decide) only [S_I, S_R, S_ne, alloc_S, S_i, R_I, R_eq, R_k, R_ne, R_mk, R_mkn, I_R, I_mk, I_mkn, rd_eq, rd_k, rd_ne]
  have r7 : mR M (hd 40 0) 7 = some (hd 45 0) := by rw [hM]; simp (disch := decide) only [S_I, S_R, S_ne, alloc_S, S_i, R_I, R_eq, R_k, R_ne, R_mk, R_mkn, I_R, I_mk, I_mkn, rd_eq, rd_k, rd_ne]
  have r8 : mR M (hd 40 0) 8 = some (hd 46 0) := by rw [hM]; simp (disch := decide) only [S_I, S_R, S_ne, alloc_S, S_i, R_I, R_eq, R_k, R_ne, R_mk, R_mkn, I_R, I_mk, I_mkn, rd_eq, rd_k, rd_ne]
  have i3 : mI M (hd 40 0) 3 = -1 := by rw [hM]; simp (disch := decide) only [S_I, S_R, S_ne, alloc_S, S_i, R_I, R_eq, R_k, R_ne, R_mk, R_mkn, I_R, I_mk, I_mkn, rd_eq, rd_k, rd_ne]
  have i2 : mI M (hd 40 0) 2 = 0 := by rw [hM]; simp (disch := decide) only [S_I, S_R, S_ne, alloc_S, S_i, R_I, R_eq, R_k, R_ne, R_mk, R_mkn, I_R, I_mk, I_mkn, rd_eq, rd_k, rd_ne]; exact h2
  have m0 : MMC M := ⟨(fal_c s40 (fal_c s41 (fal_c s42 (fal_c s43 (fal_c s44 (fal_c s45 (fal_c s46 fal_n))))))), (fal_c r1 (fal_c r4 (fal_c r5 (fal_c r6 (fal_c r7 (fal_c r8 fal_n))))))⟩
  clear hM
  have z : ∀ κ i, 47 ≤ κ → κ ≤ 89 → mS M (hd κ i) = (0, 0) := fun κ i a b => (F.S (by omega) (by omega)).trans (hz κ i (by omega) b)
  -- the plan
  refine Wa.aload_n (j := 0) d_MM_init_63 rfl ?_
  refine Wa.new (q := E_MP) (hd 50 0) 12 d_MM_init_64 rfl ok_MP (by decide +kernel) cl_MM_32 (by decide) (by decide) (z 50 0 (by decide) (by decide)) w_50 ?_
  refine Wa.dup d_MM_init_67 rfl ?_
  refine Wa.callI (K' := K_MP_init) (n := 0) (As := []) (b := hd 50 0) (st := [.ref (hd 50 0), .ref (hd 40 0)]) (d - 1) 12 1367 d_MM_init_68 mok_MP_init rfl il_MM_34 rfl rfl (Nat.le_of_ble_eq_true rfl) (by omega) (by decide) (by decide) (c_MPi (Q := fun r μ' => r = none ∧ μ' = newMP M 0) (by omega) alloc_S (fun e he => ?_) ⟨rfl, rfl⟩) (fun r M1 hq => ?_)
  · have k1 := (by decide : ∀ e ∈ mpL, e.1 < 256 ∧ e.1 ≠ 50 ∧ 47 ≤ e.1 ∧ e.1 ≤ 89) e he
    exact (S_ne (by decide) k1.1 k1.2.1).trans (z e.1 0 k1.2.2.1 k1.2.2.2)
  obtain ⟨rfl, e1⟩ := hq
  have f1 : FrS (fun κ i => (50 ≤ κ ∧ κ ≤ 62) ∧ i = 0) M M1 := by
    rw [e1]
    exact (FrS.rf.mk (by decide) ⟨by decide, rfl⟩).trans (nmp_F mpL _ (by decide))
  have p1 : PlanOK M1 0 := by rw [e1]; exact newMP_P
  have c1 : ∀ k, mI M1 (hd 50 0) k = 0 := fun k => by rw [e1, nmp_I (by decide), if_pos (by decide)]
  have m1 := m0.fr f1 (by omega)
  have F1 : FrS (fun κ i => (40 ≤ κ ∧ κ ≤ 62) ∧ i = 0) μ M1 := (F.mono (fun κ i h => by omega)).trans (f1.mono (fun κ i h => by omega))
  have j2 : mI M1 (hd 40 0) 2 = 0 := (f1.I (by decide) (by omega)).trans i2
  have j3 : mI M1 (hd 40 0) 3 = -1 := (f1.I (by decide) (by omega)).trans i3
  clear e1 f1 m0 F i2 i3 z
  refine Wx.putR 11 11 d_MM_init_71 f_MM_11 rfl ok_MM fl_MM_35 (Or.inl rfl) w_40 (m1.1 _ List.mem_cons_self) ?_
  refine Wa.aload_n (j := 0) d_MM_init_74 rfl ?_
  refine Wa.aload_n (j := 0) d_MM_init_75 rfl ?_
  refine Wx.getR 11 11 d_MM_init_76 f_MM_11 rfl fl_MM_35 (m1.1 _ List.mem_cons_self) ((gR_rw w_40 _).trans R_eq) ?_
  refine Wx.putR 11 12 d_MM_init_79 f_MM_12 rfl ok_MM fl_MM_39 (Or.inl rfl) w_40 (m1.1 _ List.mem_cons_self) ?_
  obtain ⟨M2, hM⟩ : ∃ M2, M2 = setR (setR M1 (hd 40 0) 11 (hd 50 0)) (hd 40 0) 12 (hd 50 0) := ⟨_, rfl⟩
  rw [← hM]
  have f2 : FrS (fun κ i => κ = 40 ∧ i = 0) M1 M2 := by rw [hM]; exact (FrS.rf.sR (by decide) ⟨rfl, rfl⟩).sR (by decide) ⟨rfl, rfl⟩
  have m2 : MMC M2 := by rw [hM]; exact (m1.put (by decide)).put (by decide)
  have q11 : mR M2 (hd 40 0) 11 = some (hd 50 0) := by rw [hM, R_k (by decide), R_eq]
  have q12 : mR M2 (hd 40 0) 12 = some (hd 50 0) := by rw [hM, R_eq]
  have k2 : mI M2 (hd 40 0) 2 = 0 := by rw [hM]; exact j2
  have k3 : mI M2 (hd 40 0) 3 = -1 := by rw [hM]; exact j3
  have p2 := p1.frS f2 (by omega)
  have c2 : ∀ k, mI M2 (hd 50 0) k = 0 := fun k => (f2.I (by decide) (by omega)).trans (c1 k)
  have F2 : FrS (fun κ i => (40 ≤ κ ∧ κ ≤ 62) ∧ i = 0) μ M2 := F1.trans (f2.mono (fun κ i h => by omega))
  clear hM f2 m1 j2 j3 p1 c1 F1
  have z : ∀ κ i, 63 ≤ κ → κ ≤ 89 → mS M2 (hd κ i) = (0, 0) := fun κ i a b => (F2.S (by omega) (by omega)).trans (hz κ i (by omega) b)
  -- world 0
  refine Wa.aload_n (j := 0) d_MM_init_82 rfl ?_
  refine Wa.new (q := E_MS) (hd 65 0) 13 d_MM_init_83 rfl ok_MS (by decide +kernel) cl_MM_42 (by decide) (by decide) (z 65 0 (by decide) (by decide)) w_65 ?_
  refine Wa.dup d_MM_init_86 rfl ?_
  refine Wa.aload_n (j := 0) d_MM_init_87 rfl ?_
  refine Wa.callI (K' := K_MS_init) (n := 1) (As := [.ref (hd 40 0)]) (b := hd 65 0) (st := [.ref (hd 65 0), .ref (hd 40 0)]) (d - 1) 17 2704 d_MM_init_88 mok_MS_init rfl il_MM_44 rfl rfl (Nat.le_of_ble_eq_true rfl) (by omega) (by decide) (by decide) (c_MSi (Q := fun r μ' => r = none ∧ FrS (fun κ j => (65 ≤ κ ∧ κ ≤ 82) ∧ j = 0) (mkA M2 (hd 65 0) (1, 13)) μ' ∧ MSF 0 μ') (by omega) alloc_S (fun κ a b => (S_ne (by decide) (by omega) (by omega)).trans (z κ 0 (by omega) (by omega))) (fun μ' a b => ⟨rfl, a, b⟩)) (fun r M3 hq => ?_)
  obtain ⟨rfl, f3, w3⟩ := hq
  have f3 : FrS (fun κ j => (65 ≤ κ ∧ κ ≤ 82) ∧ j = 0) M2 M3 := (FrS.rf.mk (by decide) ⟨by decide, rfl⟩).trans f3
  have m3 := m2.fr f3 (by omega)
  refine Wx.putR 11 13 d_MM_init_91 f_MM_13 rfl ok_MM fl_MM_47 (Or.inr ⟨rfl, rfl, rfl⟩) w_40 (m3.1 _ List.mem_cons_self) ?_
  obtain ⟨M4, hM⟩ : ∃ M4, M4 = setR M3 (hd 40 0) 13 (hd 65 0) := ⟨_, rfl⟩
  rw [← hM]
  have f4 : FrS (fun κ i => κ = 40 ∧ i = 0) M3 M4 := by rw [hM]; exact FrS.rf.sR (by decide) ⟨rfl, rfl⟩
  have m4 : MMC M4 := by rw [hM]; exact m3.put (by decide)
  have t11 : mR M4 (hd 40 0) 11 = some (hd 50 0) := by rw [hM, R_k (by decide)]; exact (f3.R (by decide) (by omega)).trans q11
  have t12 : mR M4 (hd 40 0) 12 = some (hd 50 0) := by rw [hM, R_k (by decide)]; exact (f3.R (by decide) (by omega)).trans q12
  have t13 : mR M4 (hd 40 0) 13 = some (hd 65 0) := by rw [hM, R_eq]
  have l2 : mI M4 (hd 40 0) 2 = 0 := by rw [hM]; exact (f3.I (by decide) (by omega)).trans k2
  have l3 : mI M4 (hd 40 0) 3 = -1 := by rw [hM]; exact (f3.I (by decide) (by omega)).trans k3
  have p4 := (p2.frS f3 (by omega)).frS f4 (by omega)
  have c4 : ∀ k, mI M4 (hd 50 0) k = 0 := fun k => (f4.I (by decide) (by omega)).trans ((f3.I (by decide) (by omega)).trans (c2 k))
  have w4 := w3.fr f4 (by omega)
  have F4 : FrS (fun κ i => (40 ≤ κ ∧ κ ≤ 82) ∧ i = 0) μ M4 := ((F2.mono (fun κ i h => by omega)).trans (f3.mono (fun κ i h => by omega))).trans (f4.mono (fun κ i h => by omega))
  clear hM f3 f4 m2 m3 q11 q12 k2 k3 p2 c2 w3 F2 z
  have z : ∀ κ i, 63 ≤ κ → κ ≤ 89 → i ≠ 0 → mS M4 (hd κ i) = (0, 0) := fun κ i a b c => (F4.S (by omega) (by omega)).trans (hz κ i (by omega) b)
  -- world 1
  refine Wa.aload_n (j := 0) d_MM_init_94 rfl ?_
  refine Wa.new (q := E_MS) (hd 65 1) 13 d_MM_init_95 rfl ok_MS (by decide +kernel) cl_MM_42 (by decide) (by decide) (z 65 1 (by decide) (by decide) (by decide)) w_65 ?_
  refine Wa.dup d_MM_init_98 rfl ?_
  refine Wa.aload_n (j := 0) d_MM_init_99 rfl ?_
  refine Wa.callI (K' := K_MS_init) (n := 1) (As := [.ref (hd 40 0)]) (b := hd 65 1) (st := [.ref (hd 65 1), .ref (hd 40 0)]) (d - 1) 17 2704 d_MM_init_100 mok_MS_init rfl il_MM_44 rfl rfl (Nat.le_of_ble_eq_true rfl) (by omega) (by decide) (by decide) (c_MSi (Q := fun r μ' => r = none ∧ FrS (fun κ j => (65 ≤ κ ∧ κ ≤ 82) ∧ j = 1) (mkA M4 (hd 65 1) (1, 13)) μ' ∧ MSF 1 μ') (by omega) alloc_S (fun κ a b => (S_ne (by decide) (by omega) (by omega)).trans (z κ 1 (by omega) (by omega) (by decide))) (fun μ' a b => ⟨rfl, a, b⟩)) (fun r M5 hq => ?_)
  obtain ⟨rfl, f5, w5⟩ := hq
  have f5 : FrS (fun κ j => (65 ≤ κ ∧ κ ≤ 82) ∧ j = 1) M4 M5 := (FrS.rf.mk (by decide) ⟨by decide, rfl⟩).trans f5
  have m5 := m4.fr f5 (by omega)
  refine Wx.putR 11 14 d_MM_init_103 f_MM_14 rfl ok_MM fl_MM_51 (Or.inr ⟨rfl, rfl, rfl⟩) w_40 (m5.1 _ List.mem_cons_self) ?_
  obtain ⟨M6, hM⟩ : ∃ M6, M6 = setR M5 (hd 40 0) 14 (hd 65 1) := ⟨_, rfl⟩
  rw [← hM]
  have f6 : FrS (fun κ i => κ = 40 ∧ i = 0) M5 M6 := by rw [hM]; exact FrS.rf.sR (by decide) ⟨rfl, rfl⟩
  have m6 : MMC M6 := by rw [hM]; exact m5.put (by decide)
  have u11 : mR M6 (hd 40 0) 11 = some (hd 50 0) := by rw [hM, R_k (by decide)]; exact (f5.R (by decide) (by omega)).trans t11
  have u12 : mR M6 (hd 40 0) 12 = some (hd 50 0) := by rw [hM, R_k (by decide)]; exact (f5.R (by decide) (by omega)).trans t12
  have u13 : mR M6 (hd 40 0) 13 = some (hd 65 0) := by rw [hM, R_k (by decide)]; exact (f5.R (by decide) (by omega)).trans t13
  have u14 : mR M6 (hd 40 0) 14 = some (hd 65 1) := by rw [hM, R_eq]
  have n2 : mI M6 (hd 40 0) 2 = 0 := by rw [hM]; exact (f5.I (by decide) (by omega)).trans l2
  have n3 : mI M6 (hd 40 0) 3 = -1 := by rw [hM]; exact (f5.I (by decide) (by omega)).trans l3
  have p6 := (p4.frS f5 (by omega)).frS f6 (by omega)
  have c6 : ∀ k, mI M6 (hd 50 0) k = 0 := fun k => (f6.I (by decide) (by omega)).trans ((f5.I (by decide) (by omega)).trans (c4 k))
  have w60 := (w4.fr f5 (by omega)).fr f6 (by omega)
  have w61 := w5.fr f6 (by omega)
  have F6 : FrS (fun κ i => (40 ≤ κ ∧ κ ≤ 82) ∧ i < 2) μ M6 := ((F4.mono (fun κ i h => by omega)).trans (f5.mono (fun κ i h => by omega))).trans (f6.mono (fun κ i h => by omega))
  have F5' : FrS (fun κ i => (40 ≤ κ ∧ κ ≤ 82) ∧ (i = 0 ∨ 65 ≤ κ)) μ M6 := ((F4.mono (fun κ i h => by omega)).trans (f5.mono (fun κ i h => by omega))).trans (f6.mono (fun κ i h => by omega))
  clear hM f5 f6 m4 m5 t11 t12 t13 l2 l3 p4 c4 w4 w5 F4 z
  have hS : S9 M6 := S9.of (hC.fr F6 (fun κ i a => by omega)) (hP.fr F6 (fun κ i a b => by omega)) ⟨m6, ⟨u11, u12, u13, u14⟩, p6, w60, w61⟩ (fun κ hκ q hq => by
    have k1 := (by decide : ∀ κ ∈ frTab, (50 ≤ κ ∧ κ ≤ 62) ∨ κ = 85) κ hκ
    exact (F5'.S (by omega) (by omega)).trans (hz κ q (by omega) (by omega)))
  have hpx : px M6 (hd 40 0) 11 = 0 := px_eq (by decide) u11
  have hPM : PM M6 tZ dZ := by
    unfold PM
    rw [hpx, c6, c6, c6, c6]
    exact ⟨rfl, rfl, rfl, rfl, fun r hr => absurd hr (Nat.not_lt_zero _)⟩
  -- it begins
  refine Wa.aload_n (j := 0) d_MM_init_106 rfl ?_
  refine Wx.getR 11 13 d_MM_init_107 f_MM_13 rfl fl_MM_47 (m6.1 _ List.mem_cons_self) ((gR_rw w_40 _).trans u13) ?_
  refine Wa.callV (st := []) (b := hd 65 0) (q := E_MS) (As := []) 13 (d - 1) 0 0 d_MM_init_110 mok_MS_begin vl_MM_54 rfl rfl rfl (Nat.le_of_ble_eq_true rfl) (by omega) (Nat.zero_le _) (Nat.zero_le _) (w60.1 _ List.mem_cons_self) (c9_MS_begin (Q := fun r μ' => r = none ∧ FrO 0 M6 μ' ∧ MW μ' 0 tZ dZ []) (by omega) hS hpx db_Z d0_Z hPM (fun r hr => absurd hr (Nat.not_lt_zero _)) (fun μ' f _ w => ⟨rfl, f, w⟩)) (fun r M7 hq => ?_)
  obtain ⟨s7, rfl, f7, w7⟩ := hq
  have o7 : ∀ κ i, OwM 0 κ i → 65 ≤ κ ∧ κ ≤ 82 := fun κ i h => by unfold OwM at h; omega
  exact Wx.retv d_MM_init_113 rfl (hQ _ ((F6.mono (fun κ i h => by omega)).trans ((FrS.of f7.1).mono (fun κ i h => by have := o7 κ i h; omega))) s7 w7 ((f7.1.I (by decide) (fun h => by have := o7 _ _ h; omega)).trans n2) ((f7.1.I (by decide) (fun h => by have := o7 _ _ h; omega)).trans n3))
