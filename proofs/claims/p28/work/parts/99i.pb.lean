/-! the component is made -/
def fld8 (k : Nat) : Nat := if k = 0 then hd 9 0 else if k = 3 then hd 18 0 else if k = 4 then hd 18 1 else if k = 5 then hd 10 0 else if k = 6 then hd 15 0 else if k = 7 then hd 16 0 else if k = 8 then hd 29 0 else hd 29 1
def B8 (n : Nat) (μ : Mu) : Prop := (mS μ (hd 8 0) = (1, 0) ∧ mS μ (hd 9 0) = (4, 2000)) ∧ (mI μ (hd 8 0) 1 = 0 ∧ mI μ (hd 8 0) 2 = -1) ∧ ∀ k, k < n → k ≠ 1 → k ≠ 2 → mR μ (hd 8 0) k = some (fld8 k)
theorem B8.fr {n : Nat} {μ μ' : Mu} {own : Nat → Nat → Prop} (h : B8 n μ) (f : FrS own μ μ') (ho : ¬ own 8 0) (h9 : ¬ own 9 0) : B8 n μ' := ⟨⟨(f.S (by decide) ho).trans h.1.1, (f.S (by decide) h9).trans h.1.2⟩, ⟨(f.I (by decide) ho).trans h.2.1.1, (f.I (by decide) ho).trans h.2.1.2⟩, fun k a b c => (f.R (by decide) ho).trans (h.2.2 k a b c)⟩
theorem B8.put {n x : Nat} {μ : Mu} (h : B8 n μ) (e : x = fld8 n) : B8 (n + 1) (setR μ (hd 8 0) n x) := ⟨h.1, h.2.1, fun k a b c => by
  by_cases z : k = n
  · rw [z, R_eq, e]
  · rw [R_k z]; exact h.2.2 k (by omega) b c⟩
def Us (n κ i : Nat) : Prop := (κ = 9 ∧ i = 0) ∨ (1 ≤ n ∧ OwPi 0 κ i) ∨ (2 ≤ n ∧ OwPi 1 κ i) ∨ (3 ≤ n ∧ (((10 ≤ κ ∧ κ ≤ 14) ∧ i = 0) ∨ (κ = 9 ∧ i = 1))) ∨ (4 ≤ n ∧ κ = 15 ∧ i = 0) ∨ (5 ≤ n ∧ ((κ = 16 ∧ i = 0) ∨ (κ = 17 ∧ i < 3))) ∨ (6 ≤ n ∧ OwWi 0 κ i)
/-- not yet made -/
def Zs (n : Nat) (μ : Mu) : Prop := ∀ κ i, 9 ≤ κ → κ ≤ 38 → ¬ Us n κ i → mS μ (hd κ i) = (0, 0)
theorem Zs.step {n : Nat} {μ μ' : Mu} {own : Nat → Nat → Prop} (h : Zs n μ) (f : FrS own μ μ') (ho : ∀ κ i, 9 ≤ κ → κ ≤ 38 → own κ i → Us (n + 1) κ i) (hm : ∀ κ i, Us n κ i → Us (n + 1) κ i) : Zs (n + 1) μ' := fun κ i a b c => (f.S (by omega) (fun z => c (ho κ i a b z))).trans (h κ i a b (fun z => c (hm κ i z)))
theorem Us.up {n κ i : Nat} (h : Us n κ i) : Us (n + 1) κ i := by
  rcases h with h | ⟨a, h⟩ | ⟨a, h⟩ | ⟨a, h⟩ | ⟨a, h⟩ | ⟨a, h⟩ | ⟨a, h⟩
  · exact Or.inl h
  · exact Or.inr (Or.inl ⟨by omega, h⟩)
  · exact Or.inr (Or.inr (Or.inl ⟨by omega, h⟩))
  · exact Or.inr (Or.inr (Or.inr (Or.inl ⟨by omega, h⟩)))
  · exact Or.inr (Or.inr (Or.inr (Or.inr (Or.inl ⟨by omega, h⟩))))
  · exact Or.inr (Or.inr (Or.inr (Or.inr (Or.inr (Or.inl ⟨by omega, h⟩)))))
  · exact Or.inr (Or.inr (Or.inr (Or.inr (Or.inr (Or.inr ⟨by omega, h⟩)))))
def TkF (μ : Mu) : Prop := (mS μ (hd 10 0) = (1, 9) ∧ mS μ (hd 11 0) = (20, 401) ∧ mS μ (hd 12 0) = (2, 401) ∧ mS μ (hd 13 0) = (3, 401) ∧ mS μ (hd 14 0) = (2, 401) ∧ mS μ (hd 9 1) = (4, 0)) ∧ (mR μ (hd 10 0) 0 = some (hd 11 0) ∧ mR μ (hd 10 0) 1 = some (hd 12 0) ∧ mR μ (hd 10 0) 2 = some (hd 13 0) ∧ mR μ (hd 10 0) 3 = some (hd 14 0) ∧ mR μ (hd 10 0) 5 = some (hd 9 1)) ∧ ∀ k, mR μ (hd 11 0) k = none
def GrF (μ : Mu) : Prop := mS μ (hd 15 0) = (1, 3) ∧ mR μ (hd 15 0) 3 = some (hd 0 47) ∧ mR μ (hd 15 0) 0 = some (hd 10 0) ∧ mR μ (hd 15 0) 1 = some (hd 18 1)
def NmF (μ : Mu) : Prop := (mS μ (hd 16 0) = (1, 4) ∧ mS μ (hd 17 0) = (3, 5) ∧ mS μ (hd 17 1) = (3, 6) ∧ mS μ (hd 17 2) = (3, 8)) ∧ mR μ (hd 16 0) 0 = some (hd 17 0) ∧ mR μ (hd 16 0) 1 = some (hd 17 1) ∧ mR μ (hd 16 0) 2 = some (hd 17 2) ∧ mR μ (hd 16 0) 3 = some (hd 10 0) ∧ mR μ (hd 16 0) 4 = some (hd 18 1)
theorem TkF.fr {μ μ' : Mu} {own : Nat → Nat → Prop} (h : TkF μ) (f : FrS own μ μ') (ho : ∀ κ i, ((10 ≤ κ ∧ κ ≤ 14) ∧ i = 0) ∨ (κ = 9 ∧ i = 1) → ¬ own κ i) : TkF μ' := by
  obtain ⟨⟨a1, a2, a3, a4, a5, a6⟩, ⟨b1, b2, b3, b4, b5⟩, c⟩ := h
  exact ⟨⟨(f.S (by decide) (ho _ _ (by decide))).trans a1, (f.S (by decide) (ho _ _ (by decide))).trans a2, (f.S (by decide) (ho _ _ (by decide))).trans a3, (f.S (by decide) (ho _ _ (by decide))).trans a4, (f.S (by decide) (ho _ _ (by decide))).trans a5, (f.S (by decide) (ho _ _ (by decide))).trans a6⟩, ⟨(f.R (by decide) (ho _ _ (by decide))).trans b1, (f.R (by decide) (ho _ _ (by decide))).trans b2, (f.R (by decide) (ho _ _ (by decide))).trans b3, (f.R (by decide) (ho _ _ (by decide))).trans b4, (f.R (by decide) (ho _ _ (by decide))).trans b5⟩, fun k => (f.R (by decide) (ho _ _ (by decide))).trans (c k)⟩
theorem GrF.fr {μ μ' : Mu} {own : Nat → Nat → Prop} (h : GrF μ) (f : FrS own μ μ') (ho : ¬ own 15 0) : GrF μ' := ⟨(f.S (by decide) ho).trans h.1, (f.R (by decide) ho).trans h.2.1, (f.R (by decide) ho).trans h.2.2.1, (f.R (by decide) ho).trans h.2.2.2⟩
theorem NmF.fr {μ μ' : Mu} {own : Nat → Nat → Prop} (h : NmF μ) (f : FrS own μ μ') (ho : ∀ i, ¬ own 16 i ∧ ¬ own 17 i) : NmF μ' := by
  obtain ⟨⟨a1, a2, a3, a4⟩, b1, b2, b3, b4, b5⟩ := h
  exact ⟨⟨(f.S (by decide) (ho _).1).trans a1, (f.S (by decide) (ho _).2).trans a2, (f.S (by decide) (ho _).2).trans a3, (f.S (by decide) (ho _).2).trans a4⟩, (f.R (by decide) (ho _).1).trans b1, (f.R (by decide) (ho _).1).trans b2, (f.R (by decide) (ho _).1).trans b3, (f.R (by decide) (ho _).1).trans b4, (f.R (by decide) (ho _).1).trans b5⟩
def PBF (μ : Mu) : Prop := B8 10 μ ∧ PlF 0 μ ∧ PlF 1 μ ∧ TkF μ ∧ GrF μ ∧ NmF μ ∧ WdF 0 0 μ ∧ WdF 1 0 μ
theorem FrS.put8 {μ : Mu} {k x : Nat} : FrS (fun κ i => κ = 8 ∧ i = 0) μ (setR μ (hd 8 0) k x) := FrS.rf.sR (by decide) ⟨rfl, rfl⟩
theorem Zs.put {n k x : Nat} {μ : Mu} (h : Zs n μ) : Zs n (setR μ (hd 8 0) k x) := h
set_option maxHeartbeats 4000000 in
theorem c_PB_init {d : Nat} {Q : Option Value → Mu → Prop} {μ : Mu} (hD : 5 ≤ d) (hs : mS μ (hd 8 0) = (1, 0)) (hz : ∀ κ i, 9 ≤ κ → κ ≤ 38 → mS μ (hd κ i) = (0, 0)) (hQ : ∀ μ', FrS (fun κ _ => 8 ≤ κ ∧ κ ≤ 38) μ μ' → PBF μ' → Q none μ') : Call CT ST K_PB_init d 422 11976 [.ref (hd 8 0)] μ Q := by
  refine Call.of (by decide +kernel) rfl rfl (Nat.le_of_ble_eq_true rfl) rfl (fun _ => ?_)
  refine Wa.aload_n (j := 0) d_PB_init_0 rfl ?_
  refine Wa.objInit d_PB_init_1 ol_PB_1 oi_1 oi_2 (Nat.le_of_ble_eq_true rfl) (by omega) ?_
  refine Wa.aload_n (j := 0) d_PB_init_4 rfl ?_
  refine Wa.sipush (v := 2000) d_PB_init_5 rfl ?_
  refine Wa.newarr (hd 9 0) 4 2000 d_PB_init_8 ac_byte rfl (by decide) (by decide) (by decide) (by decide) (by decide) (by decide) (hz 9 0 (by decide) (by decide)) w_9 ?_
  refine Wx.putR 0 0 d_PB_init_10 f_PB_0 rfl ok_PB fl_PB_9 (Or.inr ⟨rfl, rfl, rfl⟩) w_8 (by simp (disch := decide) only [S_I, S_R, S_ne, alloc_S]; exact hs) ?_
  refine Wa.aload_n (j := 0) d_PB_init_13 rfl ?_
  refine Wa.iconst (v := 0) d_PB_init_14 rfl ?_
  refine Wx.putI 0 1 d_PB_init_15 f_PB_1 ok_PB fl_PB_13 (Or.inl rfl) w_8 (by simp (disch := decide) only [S_I, S_R, S_ne, alloc_S]; exact hs) ?_
  refine Wa.aload_n (j := 0) d_PB_init_18 rfl ?_
  refine Wa.iconst (v := -1) d_PB_init_19 rfl ?_
  refine Wx.putI 0 2 d_PB_init_20 f_PB_2 ok_PB fl_PB_17 (Or.inl rfl) w_8 (by simp (disch := decide) only [S_I, S_R, S_ne, alloc_S]; exact hs) ?_
  have F : FrS (fun κ _ => 8 ≤ κ ∧ κ ≤ 38) μ (setI (setI (setR (mkA μ (hd 9 0) (4, 2000)) (hd 8 0) 0 (hd 9 0)) (hd 8 0) 1 0) (hd 8 0) 2 (-1)) := (((FrS.rf.mk (by decide) (by decide)).sR (by decide) (by decide)).sI (by decide) (by decide)).sI (by decide) (by decide)
  have f0 : FrS (fun κ i => (κ = 8 ∨ κ = 9) ∧ i = 0) μ (setI (setI (setR (mkA μ (hd 9 0) (4, 2000)) (hd 8 0) 0 (hd 9 0)) (hd 8 0) 1 0) (hd 8 0) 2 (-1)) := (((FrS.rf.mk (by decide) (by decide)).sR (by decide) (by decide)).sI (by decide) (by decide)).sI (by decide) (by decide)
  have b : B8 3 (setI (setI (setR (mkA μ (hd 9 0) (4, 2000)) (hd 8 0) 0 (hd 9 0)) (hd 8 0) 1 0) (hd 8 0) 2 (-1)) := by
    refine ⟨⟨by simp (disch := decide) only [S_I, S_R, S_ne, alloc_S]; exact hs, by simp (disch := decide) only [S_I, S_R, S_ne, alloc_S]⟩, ⟨by simp (disch := decide) only [rd_eq, rd_k], by simp (disch := decide) only [rd_eq, rd_k]⟩, fun k a b c => ?_⟩
    obtain rfl : k = 0 := by omega
    simp (disch := decide) only [R_I, R_eq]; rfl
  have z : Zs 0 (setI (setI (setR (mkA μ (hd 9 0) (4, 2000)) (hd 8 0) 0 (hd 9 0)) (hd 8 0) 1 0) (hd 8 0) 2 (-1)) := fun κ i a b c => (f0.S (by omega) (fun w => c (Or.inl (by omega)))).trans (hz κ i a b)
  clear f0
  generalize setI (setI (setR (mkA μ (hd 9 0) (4, 2000)) (hd 8 0) 0 (hd 9 0)) (hd 8 0) 1 0) (hd 8 0) 2 (-1) = M at F b z
  -- plan 0
  refine Wa.aload_n (j := 0) d_PB_init_23 rfl ?_
  refine Wa.new (q := E_Pl) (hd 18 0) 6 d_PB_init_24 rfl ok_Pl (by decide +kernel) cl_PB_20 (by decide) (by decide) (z 18 0 (by decide) (by decide) (by unfold Us; omega)) w_18 ?_
  refine Wa.dup d_PB_init_27 rfl ?_
  refine Wa.callI (K' := K_Pl_init) (n := 0) (As := []) (b := hd 18 0) (st := [.ref (hd 18 0), .ref (hd 8 0)]) (d - 1) 44 2344 d_PB_init_28 mok_Pl_init rfl il_PB_22 rfl rfl (Nat.le_of_ble_eq_true rfl) (by omega) (by decide) (by decide) (c_Pl_init (Q := fun r μ' => r = none ∧ FrS (OwPi 0) (mkA M (hd 18 0) (1, 6)) μ' ∧ PlF 0 μ') (by omega) alloc_S (fun κ i h hk => (S_ne (by decide) (by unfold OwPi at h; omega) hk).trans (z κ i (by unfold OwPi at h; omega) (by unfold OwPi at h; omega) (by unfold Us; unfold OwPi at h; omega))) (fun μ' a b => ⟨rfl, a, b⟩)) (fun r M1 hq => ?_)
  obtain ⟨rfl, f1, p0⟩ := hq
  have f1 : FrS (OwPi 0) M M1 := (FrS.rf.mk (by decide) (by unfold OwPi; decide)).trans f1
  have F1 := F.trans (f1.mono (fun κ i h => by unfold OwPi at h; omega))
  have b1 := b.fr f1 (by unfold OwPi; decide) (by unfold OwPi; decide)
  have z1 : Zs 1 M1 := z.step f1 (fun κ i _ _ h => Or.inr (Or.inl ⟨by decide, h⟩)) (fun κ i h => h.up)
  refine Wx.putR 0 3 d_PB_init_31 f_PB_3 rfl ok_PB fl_PB_23 (Or.inl rfl) w_8 b1.1.1 ?_
  have b1' : B8 4 (setR M1 (hd 8 0) 3 (hd 18 0)) := b1.put rfl
  have F1' := F1.trans (FrS.put8 (μ := M1) (k := 3) (x := hd 18 0) |>.mono (fun κ i h => by omega))
  have p0' : PlF 0 (setR M1 (hd 8 0) 3 (hd 18 0)) := p0.fr FrS.put8 (fun κ i h => by unfold OwPi at h; omega)
  have z1' : Zs 1 (setR M1 (hd 8 0) 3 (hd 18 0)) := z1
  clear F b z f1 F1 b1 z1 p0
  generalize setR M1 (hd 8 0) 3 (hd 18 0) = M at F1' b1' p0' z1'
  -- plan 1
  refine Wa.aload_n (j := 0) d_PB_init_34 rfl ?_
  refine Wa.new (q := E_Pl) (hd 18 1) 6 d_PB_init_35 rfl ok_Pl (by decide +kernel) cl_PB_20 (by decide) (by decide) (z1' 18 1 (by decide) (by decide) (by unfold Us OwPi; omega)) w_18 ?_
  refine Wa.dup d_PB_init_38 rfl ?_
  refine Wa.callI (K' := K_Pl_init) (n := 0) (As := []) (b := hd 18 1) (st := [.ref (hd 18 1), .ref (hd 8 0)]) (d - 1) 44 2344 d_PB_init_39 mok_Pl_init rfl il_PB_22 rfl rfl (Nat.le_of_ble_eq_true rfl) (by omega) (by decide) (by decide) (c_Pl_init (Q := fun r μ' => r = none ∧ FrS (OwPi 1) (mkA M (hd 18 1) (1, 6)) μ' ∧ PlF 1 μ') (by omega) alloc_S (fun κ i h hk => (S_ne (by decide) (by unfold OwPi at h; omega) hk).trans (z1' κ i (by unfold OwPi at h; omega) (by unfold OwPi at h; omega) (by unfold Us OwPi; unfold OwPi at h; omega))) (fun μ' a b => ⟨rfl, a, b⟩)) (fun r M2 hq => ?_)
  obtain ⟨rfl, f2, p1⟩ := hq
  have f2 : FrS (OwPi 1) M M2 := (FrS.rf.mk (by decide) (by unfold OwPi; decide)).trans f2
  have F2 := F1'.trans (f2.mono (fun κ i h => by unfold OwPi at h; omega))
  have b2 := b1'.fr f2 (by unfold OwPi; decide) (by unfold OwPi; decide)
  have q0 := p0'.fr f2 (fun κ i h => by unfold OwPi at h ⊢; omega)
  have z2 : Zs 2 M2 := z1'.step f2 (fun κ i _ _ h => Or.inr (Or.inr (Or.inl ⟨by decide, h⟩))) (fun κ i h => h.up)
  refine Wx.putR 0 4 d_PB_init_42 f_PB_4 rfl ok_PB fl_PB_27 (Or.inl rfl) w_8 b2.1.1 ?_
  have b2' : B8 5 (setR M2 (hd 8 0) 4 (hd 18 1)) := b2.put rfl
  have F2' := F2.trans (FrS.put8 (μ := M2) (k := 4) (x := hd 18 1) |>.mono (fun κ i h => by omega))
  have q0' : PlF 0 (setR M2 (hd 8 0) 4 (hd 18 1)) := q0.fr FrS.put8 (fun κ i h => by unfold OwPi at h; omega)
  have p1' : PlF 1 (setR M2 (hd 8 0) 4 (hd 18 1)) := p1.fr FrS.put8 (fun κ i h => by unfold OwPi at h; omega)
  have z2' : Zs 2 (setR M2 (hd 8 0) 4 (hd 18 1)) := z2
  clear F1' b1' p0' z1' f2 F2 b2 q0 p1 z2
  generalize setR M2 (hd 8 0) 4 (hd 18 1) = M3 at F2' b2' q0' p1' z2'
  -- tokens
  refine Wa.aload_n (j := 0) d_PB_init_45 rfl ?_
  refine Wa.new (q := E_Tk) (hd 10 0) 9 d_PB_init_46 rfl ok_Tk (by decide +kernel) cl_PB_30 (by decide) (by decide) (z2' 10 0 (by decide) (by decide) (by unfold Us OwPi; omega)) w_10 ?_
  refine Wa.dup d_PB_init_49 rfl ?_
  have ztk : ∀ κ i, 9 ≤ κ → κ ≤ 14 → κ ≠ 10 → (κ = 9 → i = 1) → mS (mkA M3 (hd 10 0) (1, 9)) (hd κ i) = (0, 0) := fun κ i a b c e => (S_ne (by decide) (by omega) c).trans (z2' κ i a (by omega) (by unfold Us OwPi; omega))
  refine Wa.callI (K' := K_Tk_init) (n := 0) (As := []) (b := hd 10 0) (st := [.ref (hd 10 0), .ref (hd 8 0)]) (d - 1) 5 1604 d_PB_init_50 mok_Tk_init rfl il_PB_32 rfl rfl (Nat.le_of_ble_eq_true rfl) (by omega) (by decide) (by decide) (c_Tk_init (Q := fun r μ' => r = none ∧ FrS (fun κ i => ((10 ≤ κ ∧ κ ≤ 14) ∧ i = 0) ∨ (κ = 9 ∧ i = 1)) (mkA M3 (hd 10 0) (1, 9)) μ' ∧ TkF μ') (by omega) alloc_S (ztk 11 0 (by decide) (by decide) (by decide) (by decide)) (ztk 12 0 (by decide) (by decide) (by decide) (by decide)) (ztk 13 0 (by decide) (by decide) (by decide) (by decide)) (ztk 14 0 (by decide) (by decide) (by decide) (by decide)) (ztk 9 1 (by decide) (by decide) (by decide) (by decide)) (fun μ' f a1 a2 a3 a4 a5 a6 b1 b2 b3 b4 b5 _ _ e => ⟨rfl, f.mono (fun κ i h => by omega), ⟨a1, a2, a3, a4, a5, a6⟩, ⟨b1, b2, b3, b4, b5⟩, e⟩)) (fun r M4 hq => ?_)
  obtain ⟨rfl, f3, t3⟩ := hq
  have f3 : FrS (fun κ i => ((10 ≤ κ ∧ κ ≤ 14) ∧ i = 0) ∨ (κ = 9 ∧ i = 1)) M3 M4 := (FrS.rf.mk (by decide) (by decide)).trans f3
  have F3 := F2'.trans (f3.mono (fun κ i h => by omega))
  have b3 := b2'.fr f3 (by decide) (by decide)
  have q0 := q0'.fr f3 (fun κ i h => by unfold OwPi at h; omega)
  have q1 := p1'.fr f3 (fun κ i h => by unfold OwPi at h; omega)
  have z3 : Zs 3 M4 := z2'.step f3 (fun κ i _ _ h => Or.inr (Or.inr (Or.inr (Or.inl ⟨by decide, h⟩)))) (fun κ i h => h.up)
  refine Wx.putR 0 5 d_PB_init_53 f_PB_5 rfl ok_PB fl_PB_33 (Or.inr ⟨rfl, rfl, rfl⟩) w_8 b3.1.1 ?_
  have b3' : B8 6 (setR M4 (hd 8 0) 5 (hd 10 0)) := b3.put rfl
  have F3' := F3.trans (FrS.put8 (μ := M4) (k := 5) (x := hd 10 0) |>.mono (fun κ i h => by omega))
  have g0 : PlF 0 (setR M4 (hd 8 0) 5 (hd 10 0)) := q0.fr FrS.put8 (fun κ i h => by unfold OwPi at h; omega)
  have g1 : PlF 1 (setR M4 (hd 8 0) 5 (hd 10 0)) := q1.fr FrS.put8 (fun κ i h => by unfold OwPi at h; omega)
  have gt : TkF (setR M4 (hd 8 0) 5 (hd 10 0)) := t3.fr FrS.put8 (fun κ i h => by omega)
  have z3' : Zs 3 (setR M4 (hd 8 0) 5 (hd 10 0)) := z3
  clear F2' b2' q0' p1' z2' f3 F3 b3 q0 q1 t3 z3 ztk
  generalize setR M4 (hd 8 0) 5 (hd 10 0) = M5 at F3' b3' g0 g1 gt z3'
  have gr8 : ∀ {μ : Mu} {k x : Nat}, mR μ (hd 8 0) k = some x → gR μ (hd 8 0) k = some x := fun h => (gR_rw w_8 _).trans h
  -- grammar
  refine Wa.aload_n (j := 0) d_PB_init_56 rfl ?_
  refine Wa.new (q := E_Gr) (hd 15 0) 3 d_PB_init_57 rfl ok_Gr (by decide +kernel) cl_PB_37 (by decide) (by decide) (z3' 15 0 (by decide) (by decide) (by unfold Us OwPi; omega)) w_15 ?_
  have f4 : FrS (fun κ i => κ = 15 ∧ i = 0) M5 (mkA M5 (hd 15 0) (1, 3)) := FrS.rf.mk (by decide) ⟨rfl, rfl⟩
  have b4 := b3'.fr f4 (by decide) (by decide)
  refine Wa.dup d_PB_init_60 rfl ?_
  refine Wa.aload_n (j := 0) d_PB_init_61 rfl ?_
  refine Wx.getR 0 5 d_PB_init_62 f_PB_5 rfl fl_PB_33 b4.1.1 (gr8 (b4.2.2 5 (by decide) (by decide) (by decide))) ?_
  refine Wa.aload_n (j := 0) d_PB_init_65 rfl ?_
  refine Wx.getR 0 4 d_PB_init_66 f_PB_4 rfl fl_PB_27 b4.1.1 (gr8 (b4.2.2 4 (by decide) (by decide) (by decide))) ?_
  refine Wa.callI (K' := K_Gr_init) (n := 2) (As := [.ref (hd 10 0), .ref (hd 18 1)]) (b := hd 15 0) (st := [.ref (hd 15 0), .ref (hd 8 0)]) (d - 1) 0 0 d_PB_init_69 mok_Gr_init rfl il_PB_39 rfl rfl (Nat.le_of_ble_eq_true rfl) (by omega) (by decide) (by decide) (c_Gr_init (Q := fun r μ' => r = none ∧ FrS (fun κ i => κ = 15 ∧ i = 0) (mkA M5 (hd 15 0) (1, 3)) μ' ∧ GrF μ') (by omega) alloc_S (fun μ' f a b c e _ => ⟨rfl, f, a, b, c, e⟩)) (fun r M6 hq => ?_)
  obtain ⟨rfl, f5, h5⟩ := hq
  have f5 := f4.trans f5
  have F5 := F3'.trans (f5.mono (fun κ i h => by omega))
  have b5 := b3'.fr f5 (by decide) (by decide)
  refine Wx.putR 0 6 d_PB_init_72 f_PB_6 rfl ok_PB fl_PB_42 (Or.inr ⟨rfl, rfl, rfl⟩) w_8 b5.1.1 ?_
  have fa : FrS (fun κ i => (κ = 15 ∨ κ = 8) ∧ i = 0) M5 (setR M6 (hd 8 0) 6 (hd 15 0)) := (f5.mono (fun κ i h => by omega)).trans (FrS.put8.mono (fun κ i h => by omega))
  have b5' : B8 7 (setR M6 (hd 8 0) 6 (hd 15 0)) := b5.put rfl
  have F5' := F5.trans (FrS.put8 (μ := M6) (k := 6) (x := hd 15 0) |>.mono (fun κ i h => by omega))
  have k0 := g0.fr fa (fun κ i h => by unfold OwPi at h; omega)
  have k1 := g1.fr fa (fun κ i h => by unfold OwPi at h; omega)
  have kt := gt.fr fa (fun κ i h => by omega)
  have kg : GrF (setR M6 (hd 8 0) 6 (hd 15 0)) := h5.fr FrS.put8 (by decide)
  have z5 : Zs 4 (setR M6 (hd 8 0) 6 (hd 15 0)) := z3'.step fa (fun κ i a _ h => Or.inr (Or.inr (Or.inr (Or.inr (Or.inl ⟨by decide, by omega, h.2⟩))))) (fun κ i h => h.up)
  clear F3' b3' g0 g1 gt z3' f4 b4 f5 F5 b5 h5 fa
  generalize setR M6 (hd 8 0) 6 (hd 15 0) = M7 at b5' F5' k0 k1 kt kg z5
  -- names
  refine Wa.aload_n (j := 0) d_PB_init_75 rfl ?_
  refine Wa.new (q := E_Nm) (hd 16 0) 4 d_PB_init_76 rfl ok_Nm (by decide +kernel) cl_PB_46 (by decide) (by decide) (z5 16 0 (by decide) (by decide) (by unfold Us OwPi; omega)) w_16 ?_
  have f4 : FrS (fun κ i => (κ = 16 ∧ i = 0) ∨ (κ = 17 ∧ i < 3)) M7 (mkA M7 (hd 16 0) (1, 4)) := FrS.rf.mk (by decide) (by decide)
  have b4 := b5'.fr f4 (by decide) (by decide)
  refine Wa.dup d_PB_init_79 rfl ?_
  refine Wa.aload_n (j := 0) d_PB_init_80 rfl ?_
  refine Wx.getR 0 5 d_PB_init_81 f_PB_5 rfl fl_PB_33 b4.1.1 (gr8 (b4.2.2 5 (by decide) (by decide) (by decide))) ?_
  refine Wa.aload_n (j := 0) d_PB_init_84 rfl ?_
  refine Wx.getR 0 4 d_PB_init_85 f_PB_4 rfl fl_PB_27 b4.1.1 (gr8 (b4.2.2 4 (by decide) (by decide) (by decide))) ?_
  have znm : ∀ i, mS (mkA M7 (hd 16 0) (1, 4)) (hd 17 i) = (0, 0) := fun i => (S_ne (by decide) (by decide) (by decide)).trans (z5 17 i (by decide) (by decide) (by unfold Us OwPi; omega))
  refine Wa.callI (K' := K_Nm_init) (n := 2) (As := [.ref (hd 10 0), .ref (hd 18 1)]) (b := hd 16 0) (st := [.ref (hd 16 0), .ref (hd 8 0)]) (d - 1) 3 19 d_PB_init_88 mok_Nm_init rfl il_PB_48 rfl rfl (Nat.le_of_ble_eq_true rfl) (by omega) (by decide) (by decide) (c_Nm_init (Q := fun r μ' => r = none ∧ FrS (fun κ i => (κ = 16 ∧ i = 0) ∨ (κ = 17 ∧ i < 3)) (mkA M7 (hd 16 0) (1, 4)) μ' ∧ NmF μ') (by omega) alloc_S (znm 0) (znm 1) (znm 2) (fun μ' f a1 a2 a3 a4 b1 b2 b3 b4 b5 _ _ _ => ⟨rfl, f.mono (fun κ i h => by omega), ⟨a1, a2, a3, a4⟩, b1, b2, b3, b4, b5⟩)) (fun r M8 hq => ?_)
  obtain ⟨rfl, f6, h6⟩ := hq
  have f6 := f4.trans f6
  have F6 := F5'.trans (f6.mono (fun κ i h => by omega))
  have b6 := b5'.fr f6 (by decide) (by decide)
  refine Wx.putR 0 7 d_PB_init_91 f_PB_7 rfl ok_PB fl_PB_49 (Or.inr ⟨rfl, rfl, rfl⟩) w_8 b6.1.1 ?_
  have fa : FrS (fun κ i => (κ = 16 ∧ i = 0) ∨ (κ = 17 ∧ i < 3) ∨ (κ = 8 ∧ i = 0)) M7 (setR M8 (hd 8 0) 7 (hd 16 0)) := (f6.mono (fun κ i h => by omega)).trans (FrS.put8.mono (fun κ i h => by omega))
  have b6' : B8 8 (setR M8 (hd 8 0) 7 (hd 16 0)) := b6.put rfl
  have F6' := F6.trans (FrS.put8 (μ := M8) (k := 7) (x := hd 16 0) |>.mono (fun κ i h => by omega))
  have l0 := k0.fr fa (fun κ i h => by unfold OwPi at h; omega)
  have l1 := k1.fr fa (fun κ i h => by unfold OwPi at h; omega)
  have lt := kt.fr fa (fun κ i h => by omega)
  have lg := kg.fr fa (by decide)
  have ln : NmF (setR M8 (hd 8 0) 7 (hd 16 0)) := h6.fr FrS.put8 (fun i => by omega)
  have z6 : Zs 5 (setR M8 (hd 8 0) 7 (hd 16 0)) := z5.step fa (fun κ i a _ h => Or.inr (Or.inr (Or.inr (Or.inr (Or.inr (Or.inl ⟨by decide, by omega⟩)))))) (fun κ i h => h.up)
  clear b5' F5' k0 k1 kt kg z5 f4 b4 znm f6 F6 b6 h6 fa
  generalize setR M8 (hd 8 0) 7 (hd 16 0) = M9 at b6' F6' l0 l1 lt lg ln z6
  -- world 0
  refine Wa.aload_n (j := 0) d_PB_init_94 rfl ?_
  refine Wa.new (q := E_Wd) (hd 29 0) 10 d_PB_init_95 rfl ok_Wd (by decide +kernel) cl_PB_53 (by decide) (by decide) (z6 29 0 (by decide) (by decide) (by unfold Us OwPi OwWi; omega)) w_29 ?_
  have f4 : FrS (OwWi 0) M9 (mkA M9 (hd 29 0) (1, 10)) := FrS.rf.mk (by decide) (by unfold OwWi; decide)
  have b4 := b6'.fr f4 (by unfold OwWi; decide) (by unfold OwWi; decide)
  refine Wa.dup d_PB_init_98 rfl ?_
  refine Wa.aload_n (j := 0) d_PB_init_99 rfl ?_
  refine Wx.getR 0 3 d_PB_init_100 f_PB_3 rfl fl_PB_23 b4.1.1 (gr8 (b4.2.2 3 (by decide) (by decide) (by decide))) ?_
  refine Wa.callI (K' := K_Wd_init) (n := 1) (As := [.ref (hd 18 0)]) (b := hd 29 0) (st := [.ref (hd 29 0), .ref (hd 8 0)]) (d - 1) 159 1808 d_PB_init_103 mok_Wd_init rfl il_PB_55 rfl rfl (Nat.le_of_ble_eq_true rfl) (by omega) (by decide) (by decide) (c_Wd_init (p := 0) (Q := fun r μ' => r = none ∧ FrS (OwWi 0) (mkA M9 (hd 29 0) (1, 10)) μ' ∧ WdF 0 0 μ') (by omega) alloc_S (fun κ i h hk => (S_ne (by decide) (by unfold OwWi at h; omega) hk).trans (z6 κ i (by unfold OwWi at h; omega) (by unfold OwWi at h; omega) (by unfold Us OwPi OwWi; unfold OwWi at h; omega))) (fun μ' a b => ⟨rfl, a, b⟩)) (fun r MA hq => ?_)
  obtain ⟨rfl, f7, h7⟩ := hq
  have f7 := f4.trans f7
  have F7 := F6'.trans (f7.mono (fun κ i h => by unfold OwWi at h; omega))
  have b7 := b6'.fr f7 (by unfold OwWi; decide) (by unfold OwWi; decide)
  refine Wx.putR 0 8 d_PB_init_106 f_PB_8 rfl ok_PB fl_PB_58 (Or.inr ⟨rfl, rfl, rfl⟩) w_8 b7.1.1 ?_
  have fa : FrS (fun κ i => OwWi 0 κ i ∨ (κ = 8 ∧ i = 0)) M9 (setR MA (hd 8 0) 8 (hd 29 0)) := (f7.mono (fun κ i h => Or.inl h)).trans (FrS.put8.mono (fun κ i h => Or.inr h))
  have b7' : B8 9 (setR MA (hd 8 0) 8 (hd 29 0)) := b7.put rfl
  have F7' := F7.trans (FrS.put8 (μ := MA) (k := 8) (x := hd 29 0) |>.mono (fun κ i h => by omega))
  have m0 := l0.fr fa (fun κ i h => by unfold OwPi at h; unfold OwWi; omega)
  have m1 := l1.fr fa (fun κ i h => by unfold OwPi at h; unfold OwWi; omega)
  have mt := lt.fr fa (fun κ i h => by unfold OwWi; omega)
  have mg := lg.fr fa (by unfold OwWi; decide)
  have mn := ln.fr fa (fun i => by unfold OwWi; omega)
  have mw : WdF 0 0 (setR MA (hd 8 0) 8 (hd 29 0)) := h7.fr FrS.put8 (fun κ i h => by unfold OwWi at h; omega)
  have z7 : Zs 6 (setR MA (hd 8 0) 8 (hd 29 0)) := z6.step fa (fun κ i a _ h => Or.inr (Or.inr (Or.inr (Or.inr (Or.inr (Or.inr ⟨by decide, h.elim id (fun q => by omega)⟩)))))) (fun κ i h => h.up)
  clear b6' F6' l0 l1 lt lg ln z6 f4 b4 f7 F7 b7 h7 fa
  generalize setR MA (hd 8 0) 8 (hd 29 0) = MB9 at b7' F7' m0 m1 mt mg mn mw z7
  -- world 1
  refine Wa.aload_n (j := 0) d_PB_init_109 rfl ?_
  refine Wa.new (q := E_Wd) (hd 29 1) 10 d_PB_init_110 rfl ok_Wd (by decide +kernel) cl_PB_53 (by decide) (by decide) (z7 29 1 (by decide) (by decide) (by unfold Us OwPi OwWi; omega)) w_29 ?_
  have f4 : FrS (OwWi 1) MB9 (mkA MB9 (hd 29 1) (1, 10)) := FrS.rf.mk (by decide) (by unfold OwWi; decide)
  have b4 := b7'.fr f4 (by unfold OwWi; decide) (by unfold OwWi; decide)
  refine Wa.dup d_PB_init_113 rfl ?_
  refine Wa.aload_n (j := 0) d_PB_init_114 rfl ?_
  refine Wx.getR 0 3 d_PB_init_115 f_PB_3 rfl fl_PB_23 b4.1.1 (gr8 (b4.2.2 3 (by decide) (by decide) (by decide))) ?_
  refine Wa.callI (K' := K_Wd_init) (n := 1) (As := [.ref (hd 18 0)]) (b := hd 29 1) (st := [.ref (hd 29 1), .ref (hd 8 0)]) (d - 1) 159 1808 d_PB_init_118 mok_Wd_init rfl il_PB_55 rfl rfl (Nat.le_of_ble_eq_true rfl) (by omega) (by decide) (by decide) (c_Wd_init (p := 0) (Q := fun r μ' => r = none ∧ FrS (OwWi 1) (mkA MB9 (hd 29 1) (1, 10)) μ' ∧ WdF 1 0 μ') (by omega) alloc_S (fun κ i h hk => (S_ne (by decide) (by unfold OwWi at h; omega) hk).trans (z7 κ i (by unfold OwWi at h; omega) (by unfold OwWi at h; omega) (by unfold Us OwPi OwWi; unfold OwWi at h; omega))) (fun μ' a b => ⟨rfl, a, b⟩)) (fun r MC hq => ?_)
  obtain ⟨rfl, f8, h8⟩ := hq
  have f8 := f4.trans f8
  have F8 := F7'.trans (f8.mono (fun κ i h => by unfold OwWi at h; omega))
  have b8 := b7'.fr f8 (by unfold OwWi; decide) (by unfold OwWi; decide)
  refine Wx.putR 0 9 d_PB_init_121 f_PB_9 rfl ok_PB fl_PB_62 (Or.inr ⟨rfl, rfl, rfl⟩) w_8 b8.1.1 ?_
  have fa : FrS (fun κ i => OwWi 1 κ i ∨ (κ = 8 ∧ i = 0)) MB9 (setR MC (hd 8 0) 9 (hd 29 1)) := (f8.mono (fun κ i h => Or.inl h)).trans (FrS.put8.mono (fun κ i h => Or.inr h))
  refine Wx.retv d_PB_init_124 rfl (hQ _ (F8.trans (FrS.put8.mono (fun κ i h => by omega))) ⟨b8.put rfl, m0.fr fa (fun κ i h => by unfold OwPi at h; unfold OwWi; omega), m1.fr fa (fun κ i h => by unfold OwPi at h; unfold OwWi; omega), mt.fr fa (fun κ i h => by unfold OwWi; omega), mg.fr fa (by unfold OwWi; decide), mn.fr fa (fun i => by unfold OwWi; omega), mw.fr fa (fun κ i h => by unfold OwWi at h ⊢; omega), h8.fr FrS.put8 (fun κ i h => by unfold OwWi at h; omega)⟩)
